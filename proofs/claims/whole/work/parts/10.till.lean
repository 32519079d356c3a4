/-! the class: the contracts (by program) -/
set_option maxHeartbeats 4000000 in
set_option maxRecDepth 100000 in
theorem m_Basket_add {l : Launch} {D : va_G} {k : Nat → ClassId} (N : Nat) (gB : Nat → Nat) (β : St) (x1 : Int32) (post : ((St)) → Prop) (h : wp_Basket_add N  β x1 post) : Cv l D k y_Basket_add b_Basket_add 2 rm_Basket_add [.ref (gB 0), .int x1] (wBasket k gB β) (fun u : (St) => wBasket k gB u) post := by
  refine Cv.of (by decide) (Nat.le_of_ble_eq_true rfl) ?_
  intro p e s m below meth c A H locs ls C hP hD hS hl
  obtain ⟨hx, hb, hr, hlk, hml, hown, hts, hK, hA⟩ := id C
  replace hl : lv_has ls 2 [(0, .ref (gB 0)), (1, .int x1)] := hl
  unfold wp_Basket_add at h
  refine lv_aload_n hx hb d_Basket_add_0 rfl (lv_at hl 0 rfl) ?_
  refine va_get (D := D) (ci := 0) (v := .int (β 1 0)) (C := R_Basket) (T := F_Basket) (N := 2) hx hb hts in_Basket hown hK hP 0 rfl rfl 1 (by decide) (hts _ kw_106) (fun _ h9 => h9) rfl d_Basket_add_1 ?_
  refine lv_aload_n hx hb d_Basket_add_4 rfl (lv_at hl 0 rfl) ?_
  refine va_get (D := D) (ci := 0) (v := .ref (gB 1)) (C := R_Basket) (T := F_Basket) (N := 2) hx hb hts in_Basket hown hK hP 0 rfl rfl 0 (by decide) (hts _ kw_101) (fun _ h9 => h9) rfl d_Basket_add_5 ?_
  refine va_alen (v := 10) hx hb hK hP 1 0 rfl rfl rfl d_Basket_add_8 ?_
  refine lv_icmp_ge (tgt := 32) hx hb d_Basket_add_9 (by decide) (fun c1 => ?_) (fun c1 => ?_)
  · replace h := h.1 c1
    exact ret_v (u := β) (wf := (fun u : (St) => wBasket k gB u)) C hP hD hS (Nat.zero_le _) (Nat.zero_le _) h d_Basket_add_32
  · replace h := h.2 c1
    refine lv_aload_n hx hb d_Basket_add_12 rfl (lv_at hl 0 rfl) ?_
    refine va_get (D := D) (ci := 0) (v := .ref (gB 1)) (C := R_Basket) (T := F_Basket) (N := 2) hx hb hts in_Basket hown hK hP 0 rfl rfl 0 (by decide) (hts _ kw_101) (fun _ h9 => h9) rfl d_Basket_add_13 ?_
    refine lv_aload_n hx hb d_Basket_add_16 rfl (lv_at hl 0 rfl) ?_
    refine va_get (D := D) (ci := 0) (v := .int (β 1 0)) (C := R_Basket) (T := F_Basket) (N := 2) hx hb hts in_Basket hown hK hP 0 rfl rfl 1 (by decide) (hts _ kw_106) (fun _ h9 => h9) rfl d_Basket_add_17 ?_
    refine lv_iload_n hx hb d_Basket_add_20 rfl (lv_at hl 1 rfl) ?_
    obtain ⟨hi2, h⟩ := h
    refine va_iast hx hb hK hP hD hS 1 0 rfl rfl hi2 d_Basket_add_21 (fun H locs hP hD hS => ?_)
    obtain ⟨β3, eβ3⟩ : ∃ z, z = s2 β 0 (Int32.toNatClampNeg (β 1 0)) x1 := ⟨_, rfl⟩
    replace hP : va_P D CL (wBasket k gB β3) H := by rw [eβ3]; exact hP
    replace hD : va_D A (wBasket k gB β3) := by rw [eβ3]; exact hD
    replace h := h β3 eβ3
    refine lv_aload_n hx hb d_Basket_add_22 rfl (lv_at hl 0 rfl) ?_
    refine lv_dup hx hb d_Basket_add_23 rfl ?_
    refine va_get (D := D) (ci := 0) (v := .int (β3 1 0)) (C := R_Basket) (T := F_Basket) (N := 2) hx hb hts in_Basket hown hK hP 0 rfl rfl 1 (by decide) (hts _ kw_106) (fun _ h9 => h9) rfl d_Basket_add_24 ?_
    refine lv_iconst (v := 1) hx hb d_Basket_add_27 (by decide) ?_
    refine lv_iadd hx hb d_Basket_add_28 ?_
    refine va_put (D := D) (ci := 0) (v := .int ((β3 1 0) + 1)) (ty := .int) (C := R_Basket) (T := F_Basket) (N := 2) hx hb hts in_Basket t_Basket tt_Basket n_Basket hown hK hP hD hS 0 rfl rfl 1 (by decide) (hts _ kw_106) (fun _ h9 => h9) rfl (by decide +kernel) rfl rfl (Nat.le_of_ble_eq_true rfl) d_Basket_add_29 (fun H locs hP hD hS => ?_)
    obtain ⟨β4, eβ4⟩ : ∃ z, z = s2 β3 1 0 ((β3 1 0) + 1) := ⟨_, rfl⟩
    replace hP : va_P D CL (wBasket k gB β4) H := by rw [eβ4]; exact hP
    replace hD : va_D A (wBasket k gB β4) := by rw [eβ4]; exact hD
    replace h := h β4 eβ4
    exact ret_v (u := β4) (wf := (fun u : (St) => wBasket k gB u)) C hP hD hS (Nat.zero_le _) (Nat.zero_le _) h d_Basket_add_32
set_option maxHeartbeats 4000000 in
set_option maxRecDepth 100000 in
theorem t_Basket_remove_15 {p : Program} {l : Launch} {e : Env} {s : State} {m : MethodId} {args : Array Value} {below : List Frame} {meth : Method} {c : Code} {A : Nat → Prop} {D : va_G} {k : Nat → ClassId} {gB : Nat → Nat} (C : Cx p s m args meth c D k "PromotionTill$Basket" b_Basket_remove 3 none A) (N : Nat) (post : ((St)) → Prop) :
    ∀ (n : Nat) (x2 : Int32) (β : (St)) (H : Heap) (locs : List Loc) (ls : Array Slot), va_P D CL (wBasket k gB β) H → va_D A (wBasket k gB β) → va_S A s.heap H locs → lv_has ls 3 [(0, .ref (gB 0)), (2, .int x2)] → wp_Basket_remove_15 N post n x2 β → W p l e rm_Basket_remove s m args below meth c H locs 0 0 (MQ below (va_Qv post (fun (u : (St)) t => va_P D CL (wBasket k gB u) t.heap ∧ va_D A (wBasket k gB u)) A) args s rm_Basket_remove.cells rm_Basket_remove.slots A) (F0 m 15 ls []) := by
  obtain ⟨hx, hb, hr, hlk, hml, hown, hts, hK, hA⟩ := id C
  intro n
  induction n with
  | zero =>
    intro x2 β H locs ls hP hD hS hl h
    exact absurd h (by simp [wp_Basket_remove_15])
  | succ n ih =>
    intro x2 β H locs ls hP hD hS hl h
    rw [wp_Basket_remove_15] at h
    refine lv_iload_n hx hb d_Basket_remove_15 rfl (lv_at hl 1 rfl) ?_
    refine lv_aload_n hx hb d_Basket_remove_16 rfl (lv_at hl 0 rfl) ?_
    refine va_get (D := D) (ci := 0) (v := .int (β 1 0)) (C := R_Basket) (T := F_Basket) (N := 2) hx hb hts in_Basket hown hK hP 0 rfl rfl 1 (by decide) (hts _ kw_106) (fun _ h9 => h9) rfl d_Basket_remove_17 ?_
    refine lv_iconst (v := 1) hx hb d_Basket_remove_20 (by decide) ?_
    refine lv_isub hx hb d_Basket_remove_21 ?_
    refine lv_icmp_ge (tgt := 45) hx hb d_Basket_remove_22 (by decide) (fun c3 => ?_) (fun c3 => ?_)
    · replace h := h.1 c3
      refine lv_aload_n hx hb d_Basket_remove_45 rfl (lv_at hl 0 rfl) ?_
      refine lv_dup hx hb d_Basket_remove_46 rfl ?_
      refine va_get (D := D) (ci := 0) (v := .int (β 1 0)) (C := R_Basket) (T := F_Basket) (N := 2) hx hb hts in_Basket hown hK hP 0 rfl rfl 1 (by decide) (hts _ kw_106) (fun _ h9 => h9) rfl d_Basket_remove_47 ?_
      refine lv_iconst (v := 1) hx hb d_Basket_remove_50 (by decide) ?_
      refine lv_isub hx hb d_Basket_remove_51 ?_
      refine va_put (D := D) (ci := 0) (v := .int ((β 1 0) - 1)) (ty := .int) (C := R_Basket) (T := F_Basket) (N := 2) hx hb hts in_Basket t_Basket tt_Basket n_Basket hown hK hP hD hS 0 rfl rfl 1 (by decide) (hts _ kw_106) (fun _ h9 => h9) rfl (by decide +kernel) rfl rfl (Nat.le_of_ble_eq_true rfl) d_Basket_remove_52 (fun H locs hP hD hS => ?_)
      obtain ⟨β4, eβ4⟩ : ∃ z, z = s2 β 1 0 ((β 1 0) - 1) := ⟨_, rfl⟩
      replace hP : va_P D CL (wBasket k gB β4) H := by rw [eβ4]; exact hP
      replace hD : va_D A (wBasket k gB β4) := by rw [eβ4]; exact hD
      replace h := h β4 eβ4
      exact ret_v (u := β4) (wf := (fun u : (St) => wBasket k gB u)) C hP hD hS (Nat.zero_le _) (Nat.zero_le _) h d_Basket_remove_55
    · replace h := h.2 c3
      refine lv_aload_n hx hb d_Basket_remove_25 rfl (lv_at hl 0 rfl) ?_
      refine va_get (D := D) (ci := 0) (v := .ref (gB 1)) (C := R_Basket) (T := F_Basket) (N := 2) hx hb hts in_Basket hown hK hP 0 rfl rfl 0 (by decide) (hts _ kw_101) (fun _ h9 => h9) rfl d_Basket_remove_26 ?_
      refine lv_iload_n hx hb d_Basket_remove_29 rfl (lv_at hl 1 rfl) ?_
      refine lv_aload_n hx hb d_Basket_remove_30 rfl (lv_at hl 0 rfl) ?_
      refine va_get (D := D) (ci := 0) (v := .ref (gB 1)) (C := R_Basket) (T := F_Basket) (N := 2) hx hb hts in_Basket hown hK hP 0 rfl rfl 0 (by decide) (hts _ kw_101) (fun _ h9 => h9) rfl d_Basket_remove_31 ?_
      refine lv_iload_n hx hb d_Basket_remove_34 rfl (lv_at hl 1 rfl) ?_
      refine lv_iconst (v := 1) hx hb d_Basket_remove_35 (by decide) ?_
      refine lv_iadd hx hb d_Basket_remove_36 ?_
      obtain ⟨hi5, h⟩ := h
      refine va_iald hx hb hK hP 1 0 rfl rfl hi5 d_Basket_remove_37 ?_
      obtain ⟨hi6, h⟩ := h
      refine va_iast hx hb hK hP hD hS 1 0 rfl rfl hi6 d_Basket_remove_38 (fun H locs hP hD hS => ?_)
      obtain ⟨β7, eβ7⟩ : ∃ z, z = s2 β 0 (Int32.toNatClampNeg x2) (β 0 (Int32.toNatClampNeg (x2 + 1))) := ⟨_, rfl⟩
      replace hP : va_P D CL (wBasket k gB β7) H := by rw [eβ7]; exact hP
      replace hD : va_D A (wBasket k gB β7) := by rw [eβ7]; exact hD
      replace h := h β7 eβ7
      refine lv_iinc (v := x2 + 1) (lv' := [(2, .int (x2 + 1)), (0, .ref (gB 0))]) hx hb d_Basket_remove_39 hl (k := 1) rfl rfl (by decide) rfl (fun ls hl => ?_)
      refine lv_goto (tgt := 15) hx hb d_Basket_remove_42 (by decide) ?_
      exact ih (x2 + 1) β7 _ _ _ hP hD hS (lv_sub hl [1, 0] rfl) h
set_option maxHeartbeats 4000000 in
set_option maxRecDepth 100000 in
theorem m_Basket_remove {l : Launch} {D : va_G} {k : Nat → ClassId} (N : Nat) (gB : Nat → Nat) (β : St) (x1 : Int32) (post : ((St)) → Prop) (h : wp_Basket_remove N  β x1 post) : Cv l D k y_Basket_remove b_Basket_remove 3 rm_Basket_remove [.ref (gB 0), .int x1] (wBasket k gB β) (fun u : (St) => wBasket k gB u) post := by
  refine Cv.of (by decide) (Nat.le_of_ble_eq_true rfl) ?_
  intro p e s m below meth c A H locs ls C hP hD hS hl
  obtain ⟨hx, hb, hr, hlk, hml, hown, hts, hK, hA⟩ := id C
  replace hl : lv_has ls 3 [(0, .ref (gB 0)), (1, .int x1)] := hl
  unfold wp_Basket_remove at h
  refine lv_iload_n hx hb d_Basket_remove_0 rfl (lv_at hl 1 rfl) ?_
  refine lv_if_lt (tgt := 12) hx hb d_Basket_remove_1 (by decide) (fun c1 => ?_) (fun c1 => ?_)
  · replace h := h.1 c1
    exact ret_v (u := β) (wf := (fun u : (St) => wBasket k gB u)) C hP hD hS (Nat.zero_le _) (Nat.zero_le _) h d_Basket_remove_12
  · replace h := h.2 c1
    refine lv_iload_n hx hb d_Basket_remove_4 rfl (lv_at hl 1 rfl) ?_
    refine lv_aload_n hx hb d_Basket_remove_5 rfl (lv_at hl 0 rfl) ?_
    refine va_get (D := D) (ci := 0) (v := .int (β 1 0)) (C := R_Basket) (T := F_Basket) (N := 2) hx hb hts in_Basket hown hK hP 0 rfl rfl 1 (by decide) (hts _ kw_106) (fun _ h9 => h9) rfl d_Basket_remove_6 ?_
    refine lv_icmp_lt (tgt := 13) hx hb d_Basket_remove_9 (by decide) (fun c2 => ?_) (fun c2 => ?_)
    · replace h := h.1 c2
      refine lv_iload_n hx hb d_Basket_remove_13 rfl (lv_at hl 1 rfl) ?_
      refine lv_istore_n (lv' := [(2, .int x1), (0, .ref (gB 0)), (1, .int x1)]) hx hb d_Basket_remove_14 rfl hl (by decide) rfl (fun ls hl => ?_)
      exact t_Basket_remove_15 C N post   N x1 β _ _ _ hP hD hS (lv_sub hl [1, 0] rfl) h
    · replace h := h.2 c2
      exact ret_v (u := β) (wf := (fun u : (St) => wBasket k gB u)) C hP hD hS (Nat.zero_le _) (Nat.zero_le _) h d_Basket_remove_12
set_option maxHeartbeats 4000000 in
set_option maxRecDepth 100000 in
theorem t_Basket_countOf_25 {p : Program} {l : Launch} {e : Env} {s : State} {m : MethodId} {args : Array Value} {below : List Frame} {meth : Method} {c : Code} {A : Nat → Prop} {D : va_G} {k : Nat → ClassId} {gB : Nat → Nat} (C : Cx p s m args meth c D k "PromotionTill$Basket" b_Basket_countOf 4 (some .int) A) (N : Nat) (β : St) (post : Int32 → (Unit) → Prop) (K_4 : Int32 → Int32 → Int32 → Prop) (hK_4 : ∀ (x1 : Int32) (x2 : Int32) (x3 : Int32) (H : Heap) (locs : List Loc) (ls : Array Slot), va_P D CL (wBasket k gB β) H → va_D A (wBasket k gB β) → va_S A s.heap H locs → lv_has ls 4 [(0, .ref (gB 0)), (1, .int x1), (2, .int x2), (3, .int x3)] → K_4 x1 x2 x3 → W p l e rm_Basket_countOf s m args below meth c H locs 0 0 (MQ below (va_Qi post (fun (u : Unit) t => va_P D CL (wBasket k gB β) t.heap ∧ va_D A (wBasket k gB β)) A) args s rm_Basket_countOf.cells rm_Basket_countOf.slots A) (F0 m 4 ls [])) :
    ∀ (x1 : Int32) (x2 : Int32) (x3 : Int32) (H : Heap) (locs : List Loc) (ls : Array Slot), va_P D CL (wBasket k gB β) H → va_D A (wBasket k gB β) → va_S A s.heap H locs → lv_has ls 4 [(0, .ref (gB 0)), (1, .int x1), (2, .int x2), (3, .int x3)] → wp_Basket_countOf_25 N β post K_4 x1 x2 x3 → W p l e rm_Basket_countOf s m args below meth c H locs 0 0 (MQ below (va_Qi post (fun (u : Unit) t => va_P D CL (wBasket k gB β) t.heap ∧ va_D A (wBasket k gB β)) A) args s rm_Basket_countOf.cells rm_Basket_countOf.slots A) (F0 m 25 ls []) := by
  obtain ⟨hx, hb, hr, hlk, hml, hown, hts, hK, hA⟩ := id C
  intro x1 x2 x3 H locs ls hP hD hS hl h
  unfold wp_Basket_countOf_25 at h
  refine lv_iinc (v := x3 + 1) (lv' := [(3, .int (x3 + 1)), (0, .ref (gB 0)), (1, .int x1), (2, .int x2)]) hx hb d_Basket_countOf_25 hl (k := 3) rfl rfl (by decide) rfl (fun ls hl => ?_)
  refine lv_goto (tgt := 4) hx hb d_Basket_countOf_28 (by decide) ?_
  exact hK_4 x1 x2 (x3 + 1) _ _ _ hP hD hS (lv_sub hl [1, 2, 3, 0] rfl) h
set_option maxHeartbeats 4000000 in
set_option maxRecDepth 100000 in
theorem t_Basket_countOf_4 {p : Program} {l : Launch} {e : Env} {s : State} {m : MethodId} {args : Array Value} {below : List Frame} {meth : Method} {c : Code} {A : Nat → Prop} {D : va_G} {k : Nat → ClassId} {gB : Nat → Nat} (C : Cx p s m args meth c D k "PromotionTill$Basket" b_Basket_countOf 4 (some .int) A) (N : Nat) (β : St) (post : Int32 → (Unit) → Prop) :
    ∀ (n : Nat) (x1 : Int32) (x2 : Int32) (x3 : Int32) (H : Heap) (locs : List Loc) (ls : Array Slot), va_P D CL (wBasket k gB β) H → va_D A (wBasket k gB β) → va_S A s.heap H locs → lv_has ls 4 [(0, .ref (gB 0)), (1, .int x1), (2, .int x2), (3, .int x3)] → wp_Basket_countOf_4 N β post n x1 x2 x3 → W p l e rm_Basket_countOf s m args below meth c H locs 0 0 (MQ below (va_Qi post (fun (u : Unit) t => va_P D CL (wBasket k gB β) t.heap ∧ va_D A (wBasket k gB β)) A) args s rm_Basket_countOf.cells rm_Basket_countOf.slots A) (F0 m 4 ls []) := by
  obtain ⟨hx, hb, hr, hlk, hml, hown, hts, hK, hA⟩ := id C
  intro n
  induction n with
  | zero =>
    intro x1 x2 x3 H locs ls hP hD hS hl h
    exact absurd h (by simp [wp_Basket_countOf_4])
  | succ n ih =>
    intro x1 x2 x3 H locs ls hP hD hS hl h
    rw [wp_Basket_countOf_4] at h
    refine lv_iload_n hx hb d_Basket_countOf_4 rfl (lv_at hl 3 rfl) ?_
    refine lv_aload_n hx hb d_Basket_countOf_5 rfl (lv_at hl 0 rfl) ?_
    refine va_get (D := D) (ci := 0) (v := .int (β 1 0)) (C := R_Basket) (T := F_Basket) (N := 2) hx hb hts in_Basket hown hK hP 0 rfl rfl 1 (by decide) (hts _ kw_106) (fun _ h9 => h9) rfl d_Basket_countOf_6 ?_
    refine lv_icmp_ge (tgt := 31) hx hb d_Basket_countOf_9 (by decide) (fun c1 => ?_) (fun c1 => ?_)
    · replace h := h.1 c1
      refine lv_iload_n hx hb d_Basket_countOf_31 rfl (lv_at hl 2 rfl) ?_
      exact ret_i (u := ()) (wf := (fun u : Unit => wBasket k gB β)) C hP hD hS (Nat.zero_le _) (Nat.zero_le _) h d_Basket_countOf_32
    · replace h := h.2 c1
      refine lv_aload_n hx hb d_Basket_countOf_12 rfl (lv_at hl 0 rfl) ?_
      refine va_get (D := D) (ci := 0) (v := .ref (gB 1)) (C := R_Basket) (T := F_Basket) (N := 2) hx hb hts in_Basket hown hK hP 0 rfl rfl 0 (by decide) (hts _ kw_101) (fun _ h9 => h9) rfl d_Basket_countOf_13 ?_
      refine lv_iload_n hx hb d_Basket_countOf_16 rfl (lv_at hl 3 rfl) ?_
      obtain ⟨hi2, h⟩ := h
      refine va_iald hx hb hK hP 1 0 rfl rfl hi2 d_Basket_countOf_17 ?_
      refine lv_iload_n hx hb d_Basket_countOf_18 rfl (lv_at hl 1 rfl) ?_
      refine lv_icmp_ne (tgt := 25) hx hb d_Basket_countOf_19 (by decide) (fun c3 => ?_) (fun c3 => ?_)
      · replace h := h.1 c3
        exact t_Basket_countOf_25 C N β post (wp_Basket_countOf_4 N β post n) ih x1 x2 x3 _ _ _ hP hD hS (lv_sub hl [0, 1, 2, 3] rfl) h
      · replace h := h.2 c3
        refine lv_iinc (v := x2 + 1) (lv' := [(2, .int (x2 + 1)), (0, .ref (gB 0)), (1, .int x1), (3, .int x3)]) hx hb d_Basket_countOf_22 hl (k := 2) rfl rfl (by decide) rfl (fun ls hl => ?_)
        exact t_Basket_countOf_25 C N β post (wp_Basket_countOf_4 N β post n) ih x1 (x2 + 1) x3 _ _ _ hP hD hS (lv_sub hl [1, 2, 0, 3] rfl) h
set_option maxHeartbeats 4000000 in
set_option maxRecDepth 100000 in
theorem m_Basket_countOf {l : Launch} {D : va_G} {k : Nat → ClassId} (N : Nat) (gB : Nat → Nat) (β : St) (x1 : Int32) (post : Int32 → (Unit) → Prop) (h : wp_Basket_countOf N  β x1 post) : Ci l D k y_Basket_countOf b_Basket_countOf 4 .int rm_Basket_countOf [.ref (gB 0), .int x1] (wBasket k gB β) (fun u : Unit => wBasket k gB β) post := by
  refine Ci.of (by decide) (Nat.le_of_ble_eq_true rfl) ?_
  intro p e s m below meth c A H locs ls C hP hD hS hl
  obtain ⟨hx, hb, hr, hlk, hml, hown, hts, hK, hA⟩ := id C
  replace hl : lv_has ls 4 [(0, .ref (gB 0)), (1, .int x1)] := hl
  unfold wp_Basket_countOf at h
  refine lv_iconst (v := 0) hx hb d_Basket_countOf_0 (by decide) ?_
  refine lv_istore_n (lv' := [(2, .int 0), (0, .ref (gB 0)), (1, .int x1)]) hx hb d_Basket_countOf_1 rfl hl (by decide) rfl (fun ls hl => ?_)
  refine lv_iconst (v := 0) hx hb d_Basket_countOf_2 (by decide) ?_
  refine lv_istore_n (lv' := [(3, .int 0), (2, .int 0), (0, .ref (gB 0)), (1, .int x1)]) hx hb d_Basket_countOf_3 rfl hl (by decide) rfl (fun ls hl => ?_)
  exact t_Basket_countOf_4 C N β post   N x1 0 0 _ _ _ hP hD hS (lv_sub hl [2, 3, 1, 0] rfl) h
set_option maxHeartbeats 4000000 in
set_option maxRecDepth 100000 in
theorem t_Basket_priceIn_4 {p : Program} {l : Launch} {e : Env} {s : State} {m : MethodId} {args : Array Value} {below : List Frame} {meth : Method} {c : Code} {A : Nat → Prop} {D : va_G} {k : Nat → ClassId} {gB : Nat → Nat} {gT : Nat → Nat} {f : Nat → Option Nat} (C : Cx p s m args meth c D k "PromotionTill$Basket" b_Basket_priceIn 4 (some .int) A) (N : Nat) (β : St) (τ : St) (post : Int32 → (Unit) → Prop) :
    ∀ (n : Nat) (x2 : Int32) (x3 : Int32) (H : Heap) (locs : List Loc) (ls : Array Slot), va_P D CL (wBasket k gB β ++ (wTariff k gT τ f)) H → va_D A (wBasket k gB β ++ (wTariff k gT τ f)) → va_S A s.heap H locs → lv_has ls 4 [(0, .ref (gB 0)), (1, .ref (gT 0)), (2, .int x2), (3, .int x3)] → wp_Basket_priceIn_4 N β τ post n x2 x3 → W p l e rm_Basket_priceIn s m args below meth c H locs 0 0 (MQ below (va_Qi post (fun (u : Unit) t => va_P D CL (wBasket k gB β ++ (wTariff k gT τ f)) t.heap ∧ va_D A (wBasket k gB β ++ (wTariff k gT τ f))) A) args s rm_Basket_priceIn.cells rm_Basket_priceIn.slots A) (F0 m 4 ls []) := by
  obtain ⟨hx, hb, hr, hlk, hml, hown, hts, hK, hA⟩ := id C
  intro n
  induction n with
  | zero =>
    intro x2 x3 H locs ls hP hD hS hl h
    exact absurd h (by simp [wp_Basket_priceIn_4])
  | succ n ih =>
    intro x2 x3 H locs ls hP hD hS hl h
    rw [wp_Basket_priceIn_4] at h
    refine lv_iload_n hx hb d_Basket_priceIn_4 rfl (lv_at hl 3 rfl) ?_
    refine lv_aload_n hx hb d_Basket_priceIn_5 rfl (lv_at hl 0 rfl) ?_
    refine va_get (D := D) (ci := 0) (v := .int (β 1 0)) (C := R_Basket) (T := F_Basket) (N := 2) hx hb hts in_Basket hown hK hP 0 rfl rfl 1 (by decide) (hts _ kw_106) (fun _ h9 => h9) rfl d_Basket_priceIn_6 ?_
    refine lv_icmp_ge (tgt := 32) hx hb d_Basket_priceIn_9 (by decide) (fun c1 => ?_) (fun c1 => ?_)
    · replace h := h.1 c1
      refine lv_iload_n hx hb d_Basket_priceIn_32 rfl (lv_at hl 2 rfl) ?_
      exact ret_i (u := ()) (wf := (fun u : Unit => wBasket k gB β ++ (wTariff k gT τ f))) C hP hD hS (Nat.zero_le _) (Nat.zero_le _) h d_Basket_priceIn_33
    · replace h := h.2 c1
      refine lv_iload_n hx hb d_Basket_priceIn_12 rfl (lv_at hl 2 rfl) ?_
      refine lv_aload_n hx hb d_Basket_priceIn_13 rfl (lv_at hl 1 rfl) ?_
      refine va_get (D := D) (ci := 5) (v := .ref (gT 1)) (C := R_Tariff) (T := F_Tariff) (N := 2) hx hb hts in_Tariff hown hK hP 2 rfl rfl 0 (by decide) (hts _ kw_84) (fun _ h9 => h9) rfl d_Basket_priceIn_14 ?_
      refine lv_aload_n hx hb d_Basket_priceIn_17 rfl (lv_at hl 0 rfl) ?_
      refine va_get (D := D) (ci := 0) (v := .ref (gB 1)) (C := R_Basket) (T := F_Basket) (N := 2) hx hb hts in_Basket hown hK hP 0 rfl rfl 0 (by decide) (hts _ kw_101) (fun _ h9 => h9) rfl d_Basket_priceIn_18 ?_
      refine lv_iload_n hx hb d_Basket_priceIn_21 rfl (lv_at hl 3 rfl) ?_
      obtain ⟨hi2, h⟩ := h
      refine va_iald hx hb hK hP 1 0 rfl rfl hi2 d_Basket_priceIn_22 ?_
      obtain ⟨hi3, h⟩ := h
      refine va_iald hx hb hK hP 3 0 rfl rfl hi3 d_Basket_priceIn_23 ?_
      refine lv_iadd hx hb d_Basket_priceIn_24 ?_
      refine lv_istore_n (lv' := [(2, .int (x2 + (τ 0 (Int32.toNatClampNeg (β 0 (Int32.toNatClampNeg x3)))))), (0, .ref (gB 0)), (1, .ref (gT 0)), (3, .int x3)]) hx hb d_Basket_priceIn_25 rfl hl (by decide) rfl (fun ls hl => ?_)
      refine lv_iinc (v := x3 + 1) (lv' := [(3, .int (x3 + 1)), (2, .int (x2 + (τ 0 (Int32.toNatClampNeg (β 0 (Int32.toNatClampNeg x3)))))), (0, .ref (gB 0)), (1, .ref (gT 0))]) hx hb d_Basket_priceIn_26 hl (k := 3) rfl rfl (by decide) rfl (fun ls hl => ?_)
      refine lv_goto (tgt := 4) hx hb d_Basket_priceIn_29 (by decide) ?_
      exact ih (x2 + (τ 0 (Int32.toNatClampNeg (β 0 (Int32.toNatClampNeg x3))))) (x3 + 1) _ _ _ hP hD hS (lv_sub hl [2, 3, 1, 0] rfl) h
set_option maxHeartbeats 4000000 in
set_option maxRecDepth 100000 in
theorem m_Basket_priceIn {l : Launch} {D : va_G} {k : Nat → ClassId} (N : Nat) (gB : Nat → Nat) (gT : Nat → Nat) (f : Nat → Option Nat) (β : St) (τ : St) (post : Int32 → (Unit) → Prop) (h : wp_Basket_priceIn N  β τ  post) : Ci l D k y_Basket_priceIn b_Basket_priceIn 4 .int rm_Basket_priceIn [.ref (gB 0), .ref (gT 0)] (wBasket k gB β ++ (wTariff k gT τ f)) (fun u : Unit => wBasket k gB β ++ (wTariff k gT τ f)) post := by
  refine Ci.of (by decide) (Nat.le_of_ble_eq_true rfl) ?_
  intro p e s m below meth c A H locs ls C hP hD hS hl
  obtain ⟨hx, hb, hr, hlk, hml, hown, hts, hK, hA⟩ := id C
  replace hl : lv_has ls 4 [(0, .ref (gB 0)), (1, .ref (gT 0))] := hl
  unfold wp_Basket_priceIn at h
  refine lv_iconst (v := 0) hx hb d_Basket_priceIn_0 (by decide) ?_
  refine lv_istore_n (lv' := [(2, .int 0), (0, .ref (gB 0)), (1, .ref (gT 0))]) hx hb d_Basket_priceIn_1 rfl hl (by decide) rfl (fun ls hl => ?_)
  refine lv_iconst (v := 0) hx hb d_Basket_priceIn_2 (by decide) ?_
  refine lv_istore_n (lv' := [(3, .int 0), (2, .int 0), (0, .ref (gB 0)), (1, .ref (gT 0))]) hx hb d_Basket_priceIn_3 rfl hl (by decide) rfl (fun ls hl => ?_)
  exact t_Basket_priceIn_4 C N β τ post   N 0 0 _ _ _ hP hD hS (lv_sub hl [2, 3, 1, 0] rfl) h
set_option maxHeartbeats 4000000 in
set_option maxRecDepth 100000 in
theorem m_Offer_unitsOfUse {l : Launch} {D : va_G} {k : Nat → ClassId} (N : Nat) (gO : Nat → Nat) (ω : St) (post : Int32 → (Unit) → Prop) (h : wp_Offer_unitsOfUse N  ω  post) : Ci l D k y_Offer_unitsOfUse b_Offer_unitsOfUse 1 .int rm_Offer_unitsOfUse [.ref (gO 0)] (wOffer k gO ω) (fun u : Unit => wOffer k gO ω) post := by
  refine Ci.of (by decide) (Nat.le_of_ble_eq_true rfl) ?_
  intro p e s m below meth c A H locs ls C hP hD hS hl
  obtain ⟨hx, hb, hr, hlk, hml, hown, hts, hK, hA⟩ := id C
  replace hl : lv_has ls 1 [(0, .ref (gO 0))] := hl
  unfold wp_Offer_unitsOfUse at h
  refine lv_aload_n hx hb d_Offer_unitsOfUse_0 rfl (lv_at hl 0 rfl) ?_
  refine va_get (D := D) (ci := 1) (v := .int (ω 0 0)) (C := R_Offer) (T := F_Offer) (N := 6) hx hb hts in_Offer hown hK hP 0 rfl rfl 0 (by decide) (hts _ kw_50) (fun _ h9 => h9) rfl d_Offer_unitsOfUse_1 ?_
  refine lv_iconst (v := 3) hx hb d_Offer_unitsOfUse_4 (by decide) ?_
  refine lv_icmp_ne (tgt := 12) hx hb d_Offer_unitsOfUse_5 (by decide) (fun c1 => ?_) (fun c1 => ?_)
  · replace h := h.1 c1
    refine lv_aload_n hx hb d_Offer_unitsOfUse_12 rfl (lv_at hl 0 rfl) ?_
    refine va_get (D := D) (ci := 1) (v := .int (ω 1 0)) (C := R_Offer) (T := F_Offer) (N := 6) hx hb hts in_Offer hown hK hP 0 rfl rfl 1 (by decide) (hts _ kw_53) (fun _ h9 => h9) rfl d_Offer_unitsOfUse_13 ?_
    exact ret_i (u := ()) (wf := (fun u : Unit => wOffer k gO ω)) C hP hD hS (Nat.zero_le _) (Nat.zero_le _) h d_Offer_unitsOfUse_16
  · replace h := h.2 c1
    refine lv_iconst (v := 2) hx hb d_Offer_unitsOfUse_8 (by decide) ?_
    refine lv_goto (tgt := 16) hx hb d_Offer_unitsOfUse_9 (by decide) ?_
    exact ret_i (u := ()) (wf := (fun u : Unit => wOffer k gO ω)) C hP hD hS (Nat.zero_le _) (Nat.zero_le _) h d_Offer_unitsOfUse_16
set_option maxHeartbeats 4000000 in
set_option maxRecDepth 100000 in
theorem t_Offer_takesAt_45 {p : Program} {l : Launch} {e : Env} {s : State} {m : MethodId} {args : Array Value} {below : List Frame} {meth : Method} {c : Code} {A : Nat → Prop} {D : va_G} {k : Nat → ClassId} {gO : Nat → Nat} (C : Cx p s m args meth c D k "PromotionTill$Offer" b_Offer_takesAt 4 (some .boolean) A) (N : Nat) (ω : St) (post : Int32 → (Unit) → Prop) :
    ∀  (H : Heap) (locs : List Loc) (ls : Array Slot), va_P D CL (wOffer k gO ω) H → va_D A (wOffer k gO ω) → va_S A s.heap H locs → lv_has ls 4 [] → wp_Offer_takesAt_45 N ω post  → W p l e rm_Offer_takesAt s m args below meth c H locs 0 0 (MQ below (va_Qi post (fun (u : Unit) t => va_P D CL (wOffer k gO ω) t.heap ∧ va_D A (wOffer k gO ω)) A) args s rm_Offer_takesAt.cells rm_Offer_takesAt.slots A) (F0 m 45 ls []) := by
  obtain ⟨hx, hb, hr, hlk, hml, hown, hts, hK, hA⟩ := id C
  intro  H locs ls hP hD hS hl h
  unfold wp_Offer_takesAt_45 at h
  refine lv_iconst (v := 0) hx hb d_Offer_takesAt_45 (by decide) ?_
  exact ret_z (u := ()) (wf := (fun u : Unit => wOffer k gO ω)) C rfl hP hD hS (Nat.zero_le _) (Nat.zero_le _) h d_Offer_takesAt_46
set_option maxHeartbeats 4000000 in
set_option maxRecDepth 100000 in
theorem t_Offer_takesAt_13 {p : Program} {l : Launch} {e : Env} {s : State} {m : MethodId} {args : Array Value} {below : List Frame} {meth : Method} {c : Code} {A : Nat → Prop} {D : va_G} {k : Nat → ClassId} {gO : Nat → Nat} (C : Cx p s m args meth c D k "PromotionTill$Offer" b_Offer_takesAt 4 (some .boolean) A) (N : Nat) (ω : St) (post : Int32 → (Unit) → Prop) :
    ∀ (x2 : Int32) (y0 : Int32) (H : Heap) (locs : List Loc) (ls : Array Slot), va_P D CL (wOffer k gO ω) H → va_D A (wOffer k gO ω) → va_S A s.heap H locs → lv_has ls 4 [(0, .ref (gO 0)), (2, .int x2)] → wp_Offer_takesAt_13 N ω post x2 y0 → W p l e rm_Offer_takesAt s m args below meth c H locs 0 0 (MQ below (va_Qi post (fun (u : Unit) t => va_P D CL (wOffer k gO ω) t.heap ∧ va_D A (wOffer k gO ω)) A) args s rm_Offer_takesAt.cells rm_Offer_takesAt.slots A) (F0 m 13 ls [.int y0]) := by
  obtain ⟨hx, hb, hr, hlk, hml, hown, hts, hK, hA⟩ := id C
  intro x2 y0 H locs ls hP hD hS hl h
  unfold wp_Offer_takesAt_13 at h
  refine lv_istore_n (lv' := [(3, .int y0), (0, .ref (gO 0)), (2, .int x2)]) hx hb d_Offer_takesAt_13 rfl hl (by decide) rfl (fun ls hl => ?_)
  refine lv_iload_n hx hb d_Offer_takesAt_14 rfl (lv_at hl 0 rfl) ?_
  refine lv_if_lt (tgt := 45) hx hb d_Offer_takesAt_15 (by decide) (fun c2 => ?_) (fun c2 => ?_)
  · replace h := h.1 c2
    exact t_Offer_takesAt_45 C N ω post  _ _ _ hP hD hS (lv_sub hl [] rfl) h
  · replace h := h.2 c2
    refine lv_iload_n hx hb d_Offer_takesAt_18 rfl (lv_at hl 0 rfl) ?_
    refine lv_aload_n hx hb d_Offer_takesAt_19 rfl (lv_at hl 1 rfl) ?_
    refine va_get (D := D) (ci := 1) (v := .ref (gO 1)) (C := R_Offer) (T := F_Offer) (N := 6) hx hb hts in_Offer hown hK hP 0 rfl rfl 5 (by decide) (hts _ kw_66) (fun _ h9 => h9) rfl d_Offer_takesAt_20 ?_
    refine va_alen (v := 4) hx hb hK hP 1 0 rfl rfl rfl d_Offer_takesAt_23 ?_
    refine lv_icmp_ge (tgt := 45) hx hb d_Offer_takesAt_24 (by decide) (fun c3 => ?_) (fun c3 => ?_)
    · replace h := h.1 c3
      exact t_Offer_takesAt_45 C N ω post  _ _ _ hP hD hS (lv_sub hl [] rfl) h
    · replace h := h.2 c3
      refine lv_aload_n hx hb d_Offer_takesAt_27 rfl (lv_at hl 1 rfl) ?_
      refine va_get (D := D) (ci := 1) (v := .ref (gO 1)) (C := R_Offer) (T := F_Offer) (N := 6) hx hb hts in_Offer hown hK hP 0 rfl rfl 5 (by decide) (hts _ kw_66) (fun _ h9 => h9) rfl d_Offer_takesAt_28 ?_
      refine lv_iload_n hx hb d_Offer_takesAt_31 rfl (lv_at hl 0 rfl) ?_
      obtain ⟨hi4, h⟩ := h
      refine va_iald hx hb hK hP 1 0 rfl rfl hi4 d_Offer_takesAt_32 ?_
      refine lv_iload_n hx hb d_Offer_takesAt_33 rfl (lv_at hl 2 rfl) ?_
      refine lv_ishr hx hb d_Offer_takesAt_34 ?_
      refine lv_iconst (v := 1) hx hb d_Offer_takesAt_35 (by decide) ?_
      refine lv_iand hx hb d_Offer_takesAt_36 ?_
      refine lv_iconst (v := 1) hx hb d_Offer_takesAt_37 (by decide) ?_
      refine lv_icmp_ne (tgt := 45) hx hb d_Offer_takesAt_38 (by decide) (fun c5 => ?_) (fun c5 => ?_)
      · replace h := h.1 c5
        exact t_Offer_takesAt_45 C N ω post  _ _ _ hP hD hS (lv_sub hl [] rfl) h
      · replace h := h.2 c5
        refine lv_iconst (v := 1) hx hb d_Offer_takesAt_41 (by decide) ?_
        refine lv_goto (tgt := 46) hx hb d_Offer_takesAt_42 (by decide) ?_
        exact ret_z (u := ()) (wf := (fun u : Unit => wOffer k gO ω)) C rfl hP hD hS (Nat.zero_le _) (Nat.zero_le _) h d_Offer_takesAt_46
set_option maxHeartbeats 4000000 in
set_option maxRecDepth 100000 in
theorem m_Offer_takesAt {l : Launch} {D : va_G} {k : Nat → ClassId} (N : Nat) (gO : Nat → Nat) (ω : St) (x1 : Int32) (x2 : Int32) (post : Int32 → (Unit) → Prop) (h : wp_Offer_takesAt N  ω x1 x2 post) : Ci l D k y_Offer_takesAt b_Offer_takesAt 4 .boolean rm_Offer_takesAt [.ref (gO 0), .int x1, .int x2] (wOffer k gO ω) (fun u : Unit => wOffer k gO ω) post := by
  refine Ci.of (by decide) (Nat.le_of_ble_eq_true rfl) ?_
  intro p e s m below meth c A H locs ls C hP hD hS hl
  obtain ⟨hx, hb, hr, hlk, hml, hown, hts, hK, hA⟩ := id C
  replace hl : lv_has ls 4 [(0, .ref (gO 0)), (1, .int x1), (2, .int x2)] := hl
  unfold wp_Offer_takesAt at h
  refine lv_aload_n hx hb d_Offer_takesAt_0 rfl (lv_at hl 0 rfl) ?_
  refine va_get (D := D) (ci := 1) (v := .int (ω 0 0)) (C := R_Offer) (T := F_Offer) (N := 6) hx hb hts in_Offer hown hK hP 0 rfl rfl 0 (by decide) (hts _ kw_50) (fun _ h9 => h9) rfl d_Offer_takesAt_1 ?_
  refine lv_iconst (v := 2) hx hb d_Offer_takesAt_4 (by decide) ?_
  refine lv_icmp_ne (tgt := 12) hx hb d_Offer_takesAt_5 (by decide) (fun c1 => ?_) (fun c1 => ?_)
  · replace h := h.1 c1
    refine lv_iconst (v := 0) hx hb d_Offer_takesAt_12 (by decide) ?_
    exact t_Offer_takesAt_13 C N ω post x2 0 _ _ _ hP hD hS (lv_sub hl [0, 2] rfl) h
  · replace h := h.2 c1
    refine lv_iload_n hx hb d_Offer_takesAt_8 rfl (lv_at hl 1 rfl) ?_
    refine lv_goto (tgt := 13) hx hb d_Offer_takesAt_9 (by decide) ?_
    exact t_Offer_takesAt_13 C N ω post x2 x1 _ _ _ hP hD hS (lv_sub hl [0, 2] rfl) h
set_option maxHeartbeats 4000000 in
set_option maxRecDepth 100000 in
theorem t_Offer_looksAt_2 {p : Program} {l : Launch} {e : Env} {s : State} {m : MethodId} {args : Array Value} {below : List Frame} {meth : Method} {c : Code} {A : Nat → Prop} {D : va_G} {k : Nat → ClassId} {gO : Nat → Nat} (C : Cx p s m args meth c D k "PromotionTill$Offer" b_Offer_looksAt 3 (some .boolean) A) (N : Nat) (ω : St) (post : Int32 → (Unit) → Prop) :
    ∀ (n : Nat) (x1 : Int32) (x2 : Int32) (H : Heap) (locs : List Loc) (ls : Array Slot), va_P D CL (wOffer k gO ω) H → va_D A (wOffer k gO ω) → va_S A s.heap H locs → lv_has ls 3 [(0, .ref (gO 0)), (1, .int x1), (2, .int x2)] → wp_Offer_looksAt_2 N ω post n x1 x2 → W p l e rm_Offer_looksAt s m args below meth c H locs 0 0 (MQ below (va_Qi post (fun (u : Unit) t => va_P D CL (wOffer k gO ω) t.heap ∧ va_D A (wOffer k gO ω)) A) args s rm_Offer_looksAt.cells rm_Offer_looksAt.slots A) (F0 m 2 ls []) := by
  obtain ⟨hx, hb, hr, hlk, hml, hown, hts, hK, hA⟩ := id C
  intro n
  induction n with
  | zero =>
    intro x1 x2 H locs ls hP hD hS hl h
    exact absurd h (by simp [wp_Offer_looksAt_2])
  | succ n ih =>
    intro x1 x2 H locs ls hP hD hS hl h
    rw [wp_Offer_looksAt_2] at h
    refine lv_iload_n hx hb d_Offer_looksAt_2 rfl (lv_at hl 2 rfl) ?_
    refine lv_aload_n hx hb d_Offer_looksAt_3 rfl (lv_at hl 0 rfl) ?_
    refine same_i C hP hD hS (runV (As := []) (rest := [.int x2]) C hP hD (m_Offer_unitsOfUse N gO ω   _ h H.size) kw_443 kw_444 kw_445 kw_4 kw_446 hd_Offer_unitsOfUse ⟨Nat.le_of_ble_eq_true rfl, Nat.le_of_ble_eq_true rfl⟩ ⟨Nat.le_of_ble_eq_true rfl, Nat.le_of_ble_eq_true rfl⟩ 0 rfl rfl rfl rfl hl.1 (Nat.le_of_ble_eq_true rfl) d_Offer_looksAt_4) (fun r2 u1 H locs h hP hD hS => ?_)
    replace hP : va_P D CL (wOffer k gO ω) H := hP
    replace hD : va_D A (wOffer k gO ω) := hD
    try dsimp only at h
    refine lv_icmp_ge (tgt := 27) hx hb d_Offer_looksAt_7 (by decide) (fun c3 => ?_) (fun c3 => ?_)
    · replace h := h.1 c3
      refine lv_iconst (v := 0) hx hb d_Offer_looksAt_27 (by decide) ?_
      exact ret_z (u := ()) (wf := (fun u : Unit => wOffer k gO ω)) C rfl hP hD hS (Nat.zero_le _) (Nat.zero_le _) h d_Offer_looksAt_28
    · replace h := h.2 c3
      refine lv_aload_n hx hb d_Offer_looksAt_10 rfl (lv_at hl 0 rfl) ?_
      refine lv_iload_n hx hb d_Offer_looksAt_11 rfl (lv_at hl 2 rfl) ?_
      refine lv_iload_n hx hb d_Offer_looksAt_12 rfl (lv_at hl 1 rfl) ?_
      refine same_i C hP hD hS (runV (As := [.int x2, .int x1]) (rest := []) C hP hD (m_Offer_takesAt N gO ω x2 x1  _ h H.size) kw_447 kw_448 kw_449 kw_4 kw_450 hd_Offer_takesAt ⟨Nat.le_of_ble_eq_true rfl, Nat.le_of_ble_eq_true rfl⟩ ⟨Nat.le_of_ble_eq_true rfl, Nat.le_of_ble_eq_true rfl⟩ 0 rfl rfl rfl rfl hl.1 (Nat.le_of_ble_eq_true rfl) d_Offer_looksAt_13) (fun r5 u4 H locs h hP hD hS => ?_)
      replace hP : va_P D CL (wOffer k gO ω) H := hP
      replace hD : va_D A (wOffer k gO ω) := hD
      try dsimp only at h
      refine lv_if_eq (tgt := 21) hx hb d_Offer_looksAt_16 (by decide) (fun c6 => ?_) (fun c6 => ?_)
      · replace h := h.1 c6
        refine lv_iinc (v := x2 + 1) (lv' := [(2, .int (x2 + 1)), (0, .ref (gO 0)), (1, .int x1)]) hx hb d_Offer_looksAt_21 hl (k := 2) rfl rfl (by decide) rfl (fun ls hl => ?_)
        refine lv_goto (tgt := 2) hx hb d_Offer_looksAt_24 (by decide) ?_
        exact ih x1 (x2 + 1) _ _ _ hP hD hS (lv_sub hl [1, 2, 0] rfl) h
      · replace h := h.2 c6
        refine lv_iconst (v := 1) hx hb d_Offer_looksAt_19 (by decide) ?_
        exact ret_z (u := ()) (wf := (fun u : Unit => wOffer k gO ω)) C rfl hP hD hS (Nat.zero_le _) (Nat.zero_le _) h d_Offer_looksAt_20
set_option maxHeartbeats 4000000 in
set_option maxRecDepth 100000 in
theorem m_Offer_looksAt {l : Launch} {D : va_G} {k : Nat → ClassId} (N : Nat) (gO : Nat → Nat) (ω : St) (x1 : Int32) (post : Int32 → (Unit) → Prop) (h : wp_Offer_looksAt N  ω x1 post) : Ci l D k y_Offer_looksAt b_Offer_looksAt 3 .boolean rm_Offer_looksAt [.ref (gO 0), .int x1] (wOffer k gO ω) (fun u : Unit => wOffer k gO ω) post := by
  refine Ci.of (by decide) (Nat.le_of_ble_eq_true rfl) ?_
  intro p e s m below meth c A H locs ls C hP hD hS hl
  obtain ⟨hx, hb, hr, hlk, hml, hown, hts, hK, hA⟩ := id C
  replace hl : lv_has ls 3 [(0, .ref (gO 0)), (1, .int x1)] := hl
  unfold wp_Offer_looksAt at h
  refine lv_iconst (v := 0) hx hb d_Offer_looksAt_0 (by decide) ?_
  refine lv_istore_n (lv' := [(2, .int 0), (0, .ref (gO 0)), (1, .int x1)]) hx hb d_Offer_looksAt_1 rfl hl (by decide) rfl (fun ls hl => ?_)
  exact t_Offer_looksAt_2 C N ω post   N x1 0 _ _ _ hP hD hS (lv_sub hl [1, 2, 0] rfl) h
set_option maxHeartbeats 4000000 in
set_option maxRecDepth 100000 in
theorem t_Offer_savingOn_52 {p : Program} {l : Launch} {e : Env} {s : State} {m : MethodId} {args : Array Value} {below : List Frame} {meth : Method} {c : Code} {A : Nat → Prop} {D : va_G} {k : Nat → ClassId} {gO : Nat → Nat} (C : Cx p s m args meth c D k "PromotionTill$Offer" b_Offer_savingOn 4 (some .int) A) (N : Nat) (ω : St) (post : Int32 → (Unit) → Prop) :
    ∀ (x2 : Int32) (y0 : Int32) (H : Heap) (locs : List Loc) (ls : Array Slot), va_P D CL (wOffer k gO ω) H → va_D A (wOffer k gO ω) → va_S A s.heap H locs → lv_has ls 4 [(2, .int x2)] → wp_Offer_savingOn_52 N ω post x2 y0 → W p l e rm_Offer_savingOn s m args below meth c H locs 0 0 (MQ below (va_Qi post (fun (u : Unit) t => va_P D CL (wOffer k gO ω) t.heap ∧ va_D A (wOffer k gO ω)) A) args s rm_Offer_savingOn.cells rm_Offer_savingOn.slots A) (F0 m 52 ls [.int y0]) := by
  obtain ⟨hx, hb, hr, hlk, hml, hown, hts, hK, hA⟩ := id C
  intro x2 y0 H locs ls hP hD hS hl h
  unfold wp_Offer_savingOn_52 at h
  refine lv_istore_n (lv' := [(3, .int y0), (2, .int x2)]) hx hb d_Offer_savingOn_52 rfl hl (by decide) rfl (fun ls hl => ?_)
  refine lv_iload_n hx hb d_Offer_savingOn_53 rfl (lv_at hl 1 rfl) ?_
  refine lv_iload_n hx hb d_Offer_savingOn_54 rfl (lv_at hl 1 rfl) ?_
  refine lv_iload_n hx hb d_Offer_savingOn_55 rfl (lv_at hl 0 rfl) ?_
  refine lv_imul hx hb d_Offer_savingOn_56 ?_
  refine lv_bipush (v := 50) hx hb d_Offer_savingOn_57 (by decide) ?_
  refine lv_iadd hx hb d_Offer_savingOn_59 ?_
  refine lv_bipush (v := 100) hx hb d_Offer_savingOn_60 (by decide) ?_
  refine lv_idiv hx hb d_Offer_savingOn_62 (by decide) ?_
  refine lv_isub hx hb d_Offer_savingOn_63 ?_
  exact ret_i (u := ()) (wf := (fun u : Unit => wOffer k gO ω)) C hP hD hS (Nat.zero_le _) (Nat.zero_le _) h d_Offer_savingOn_64
set_option maxHeartbeats 4000000 in
set_option maxRecDepth 100000 in
theorem m_Offer_savingOn {l : Launch} {D : va_G} {k : Nat → ClassId} (N : Nat) (gO : Nat → Nat) (ω : St) (x1 : Int32) (x2 : Int32) (post : Int32 → (Unit) → Prop) (h : wp_Offer_savingOn N  ω x1 x2 post) : Ci l D k y_Offer_savingOn b_Offer_savingOn 4 .int rm_Offer_savingOn [.ref (gO 0), .int x1, .int x2] (wOffer k gO ω) (fun u : Unit => wOffer k gO ω) post := by
  refine Ci.of (by decide) (Nat.le_of_ble_eq_true rfl) ?_
  intro p e s m below meth c A H locs ls C hP hD hS hl
  obtain ⟨hx, hb, hr, hlk, hml, hown, hts, hK, hA⟩ := id C
  replace hl : lv_has ls 4 [(0, .ref (gO 0)), (1, .int x1), (2, .int x2)] := hl
  unfold wp_Offer_savingOn at h
  refine lv_aload_n hx hb d_Offer_savingOn_0 rfl (lv_at hl 0 rfl) ?_
  refine va_get (D := D) (ci := 1) (v := .int (ω 0 0)) (C := R_Offer) (T := F_Offer) (N := 6) hx hb hts in_Offer hown hK hP 0 rfl rfl 0 (by decide) (hts _ kw_50) (fun _ h9 => h9) rfl d_Offer_savingOn_1 ?_
  by_cases c1 : (ω 0 0) = 1
  · replace h := h.1 c1
    refine lv_lookup (off := 28) (tgt := 32) hx hb d_Offer_savingOn_4 (by decide) (by rw [c1]; rfl) (by decide) ?_
    refine lv_iload_n hx hb d_Offer_savingOn_32 rfl (lv_at hl 2 rfl) ?_
    exact ret_i (u := ()) (wf := (fun u : Unit => wOffer k gO ω)) C hP hD hS (Nat.zero_le _) (Nat.zero_le _) h d_Offer_savingOn_33
  · replace h := h.2 c1
    by_cases c2 : (ω 0 0) = 3
    · replace h := h.1 c2
      refine lv_lookup (off := 30) (tgt := 34) hx hb d_Offer_savingOn_4 (by decide) (by rw [c2]; rfl) (by decide) ?_
      refine lv_aload_n hx hb d_Offer_savingOn_34 rfl (lv_at hl 0 rfl) ?_
      refine va_get (D := D) (ci := 1) (v := .int (ω 2 0)) (C := R_Offer) (T := F_Offer) (N := 6) hx hb hts in_Offer hown hK hP 0 rfl rfl 2 (by decide) (hts _ kw_56) (fun _ h9 => h9) rfl d_Offer_savingOn_35 ?_
      refine lv_bipush (v := 100) hx hb d_Offer_savingOn_38 (by decide) ?_
      refine lv_icmp_ge (tgt := 50) hx hb d_Offer_savingOn_40 (by decide) (fun c3 => ?_) (fun c3 => ?_)
      · replace h := h.1 c3
        refine lv_bipush (v := 100) hx hb d_Offer_savingOn_50 (by decide) ?_
        exact t_Offer_savingOn_52 C N ω post x2 100 _ _ _ hP hD hS (lv_sub hl [2] rfl) h
      · replace h := h.2 c3
        refine lv_aload_n hx hb d_Offer_savingOn_43 rfl (lv_at hl 0 rfl) ?_
        refine va_get (D := D) (ci := 1) (v := .int (ω 2 0)) (C := R_Offer) (T := F_Offer) (N := 6) hx hb hts in_Offer hown hK hP 0 rfl rfl 2 (by decide) (hts _ kw_56) (fun _ h9 => h9) rfl d_Offer_savingOn_44 ?_
        refine lv_goto (tgt := 52) hx hb d_Offer_savingOn_47 (by decide) ?_
        exact t_Offer_savingOn_52 C N ω post x2 (ω 2 0) _ _ _ hP hD hS (lv_sub hl [2] rfl) h
    · replace h := h.2 c2
      refine lv_lookup (off := 61) (tgt := 65) hx hb d_Offer_savingOn_4 (by decide) ((lv_osw c1 (by decide : (1 : Int32).toInt = 1)).trans ((lv_osw c2 (by decide : (3 : Int32).toInt = 3)).trans rfl)) (by decide) ?_
      refine lv_iload_n hx hb d_Offer_savingOn_65 rfl (lv_at hl 1 rfl) ?_
      refine lv_aload_n hx hb d_Offer_savingOn_66 rfl (lv_at hl 0 rfl) ?_
      refine va_get (D := D) (ci := 1) (v := .int (ω 2 0)) (C := R_Offer) (T := F_Offer) (N := 6) hx hb hts in_Offer hown hK hP 0 rfl rfl 2 (by decide) (hts _ kw_56) (fun _ h9 => h9) rfl d_Offer_savingOn_67 ?_
      refine lv_isub hx hb d_Offer_savingOn_70 ?_
      exact ret_i (u := ()) (wf := (fun u : Unit => wOffer k gO ω)) C hP hD hS (Nat.zero_le _) (Nat.zero_le _) h d_Offer_savingOn_71
set_option maxHeartbeats 4000000 in
set_option maxRecDepth 100000 in
theorem t_Offer_put_37 {p : Program} {l : Launch} {e : Env} {s : State} {m : MethodId} {args : Array Value} {below : List Frame} {meth : Method} {c : Code} {A : Nat → Prop} {D : va_G} {k : Nat → ClassId} {gO : Nat → Nat} (C : Cx p s m args meth c D k "PromotionTill$Offer" b_Offer_put 5 none A) (N : Nat) (post : ((St)) → Prop) :
    ∀ (y0 : Int32) (y1 : Int32) (ω : (St)) (H : Heap) (locs : List Loc) (ls : Array Slot), va_P D CL (wOffer k gO ω) H → va_D A (wOffer k gO ω) → va_S A s.heap H locs → lv_has ls 5 [] → wp_Offer_put_37 N post y0 y1 ω → W p l e rm_Offer_put s m args below meth c H locs 0 0 (MQ below (va_Qv post (fun (u : (St)) t => va_P D CL (wOffer k gO u) t.heap ∧ va_D A (wOffer k gO u)) A) args s rm_Offer_put.cells rm_Offer_put.slots A) (F0 m 37 ls [.int y0, .int y1, .ref (gO 1)]) := by
  obtain ⟨hx, hb, hr, hlk, hml, hown, hts, hK, hA⟩ := id C
  intro y0 y1 ω H locs ls hP hD hS hl h
  unfold wp_Offer_put_37 at h
  obtain ⟨hi4, h⟩ := h
  refine va_iast hx hb hK hP hD hS 1 0 rfl rfl hi4 d_Offer_put_37 (fun H locs hP hD hS => ?_)
  obtain ⟨ω5, eω5⟩ : ∃ z, z = s2 ω 5 (Int32.toNatClampNeg y1) y0 := ⟨_, rfl⟩
  replace hP : va_P D CL (wOffer k gO ω5) H := by rw [eω5]; exact hP
  replace hD : va_D A (wOffer k gO ω5) := by rw [eω5]; exact hD
  replace h := h ω5 eω5
  exact ret_v (u := ω5) (wf := (fun u : (St) => wOffer k gO u)) C hP hD hS (Nat.zero_le _) (Nat.zero_le _) h d_Offer_put_38
set_option maxHeartbeats 4000000 in
set_option maxRecDepth 100000 in
theorem m_Offer_put {l : Launch} {D : va_G} {k : Nat → ClassId} (N : Nat) (gO : Nat → Nat) (ω : St) (x1 : Int32) (x2 : Int32) (x3 : Int32) (post : ((St)) → Prop) (h : wp_Offer_put N  ω x1 x2 x3 post) : Cv l D k y_Offer_put b_Offer_put 5 rm_Offer_put [.ref (gO 0), .int x1, .int x2, .int x3] (wOffer k gO ω) (fun u : (St) => wOffer k gO u) post := by
  refine Cv.of (by decide) (Nat.le_of_ble_eq_true rfl) ?_
  intro p e s m below meth c A H locs ls C hP hD hS hl
  obtain ⟨hx, hb, hr, hlk, hml, hown, hts, hK, hA⟩ := id C
  replace hl : lv_has ls 5 [(0, .ref (gO 0)), (1, .int x1), (2, .int x2), (3, .int x3)] := hl
  unfold wp_Offer_put at h
  refine lv_iconst (v := 1) hx hb d_Offer_put_0 (by decide) ?_
  refine lv_iload_n hx hb d_Offer_put_1 rfl (lv_at hl 2 rfl) ?_
  refine lv_ishl hx hb d_Offer_put_2 ?_
  refine lv_istore (lv' := [(4, .int (1 <<< (x2 &&& 31))), (0, .ref (gO 0)), (1, .int x1), (2, .int x2), (3, .int x3)]) hx hb d_Offer_put_3 hl (by decide) rfl (fun ls hl => ?_)
  refine lv_aload_n hx hb d_Offer_put_5 rfl (lv_at hl 1 rfl) ?_
  refine va_get (D := D) (ci := 1) (v := .ref (gO 1)) (C := R_Offer) (T := F_Offer) (N := 6) hx hb hts in_Offer hown hK hP 0 rfl rfl 5 (by decide) (hts _ kw_66) (fun _ h9 => h9) rfl d_Offer_put_6 ?_
  refine lv_iload_n hx hb d_Offer_put_9 rfl (lv_at hl 2 rfl) ?_
  refine lv_iload_n hx hb d_Offer_put_10 rfl (lv_at hl 4 rfl) ?_
  refine lv_if_eq (tgt := 26) hx hb d_Offer_put_11 (by decide) (fun c1 => ?_) (fun c1 => ?_)
  · replace h := h.1 c1
    refine lv_aload_n hx hb d_Offer_put_26 rfl (lv_at hl 1 rfl) ?_
    refine va_get (D := D) (ci := 1) (v := .ref (gO 1)) (C := R_Offer) (T := F_Offer) (N := 6) hx hb hts in_Offer hown hK hP 0 rfl rfl 5 (by decide) (hts _ kw_66) (fun _ h9 => h9) rfl d_Offer_put_27 ?_
    refine lv_iload_n hx hb d_Offer_put_30 rfl (lv_at hl 2 rfl) ?_
    obtain ⟨hi2, h⟩ := h
    refine va_iald hx hb hK hP 1 0 rfl rfl hi2 d_Offer_put_31 ?_
    refine lv_iload hx hb d_Offer_put_32 (lv_at hl 0 rfl) ?_
    refine lv_iconst (v := (-1)) hx hb d_Offer_put_34 (by decide) ?_
    refine lv_ixor hx hb d_Offer_put_35 ?_
    refine lv_iand hx hb d_Offer_put_36 ?_
    exact t_Offer_put_37 C N post ((ω 5 (Int32.toNatClampNeg x1)) &&& ((1 <<< (x2 &&& 31)) ^^^ (-1))) x1 ω _ _ _ hP hD hS (lv_sub hl [] rfl) h
  · replace h := h.2 c1
    refine lv_aload_n hx hb d_Offer_put_14 rfl (lv_at hl 1 rfl) ?_
    refine va_get (D := D) (ci := 1) (v := .ref (gO 1)) (C := R_Offer) (T := F_Offer) (N := 6) hx hb hts in_Offer hown hK hP 0 rfl rfl 5 (by decide) (hts _ kw_66) (fun _ h9 => h9) rfl d_Offer_put_15 ?_
    refine lv_iload_n hx hb d_Offer_put_18 rfl (lv_at hl 2 rfl) ?_
    obtain ⟨hi3, h⟩ := h
    refine va_iald hx hb hK hP 1 0 rfl rfl hi3 d_Offer_put_19 ?_
    refine lv_iload hx hb d_Offer_put_20 (lv_at hl 0 rfl) ?_
    refine lv_ior hx hb d_Offer_put_22 ?_
    refine lv_goto (tgt := 37) hx hb d_Offer_put_23 (by decide) ?_
    exact t_Offer_put_37 C N post ((ω 5 (Int32.toNatClampNeg x1)) ||| (1 <<< (x2 &&& 31))) x1 ω _ _ _ hP hD hS (lv_sub hl [] rfl) h
set_option maxHeartbeats 4000000 in
set_option maxRecDepth 100000 in
theorem m_Offer_copyTo {l : Launch} {D : va_G} {k : Nat → ClassId} (N : Nat) (gO : Nat → Nat) (gO2 : Nat → Nat) (ω : St) (ω2 : St) (post : ((St)) → Prop) (h : wp_Offer_copyTo N  ω ω2  post) : Cv l D k y_Offer_copyTo b_Offer_copyTo 2 rm_Offer_copyTo [.ref (gO 0), .ref (gO2 0)] (wOffer k gO ω ++ (wOffer k gO2 ω2)) (fun u : (St) => wOffer k gO ω ++ (wOffer k gO2 u)) post := by
  refine Cv.of (by decide) (Nat.le_of_ble_eq_true rfl) ?_
  intro p e s m below meth c A H locs ls C hP hD hS hl
  obtain ⟨hx, hb, hr, hlk, hml, hown, hts, hK, hA⟩ := id C
  replace hl : lv_has ls 2 [(0, .ref (gO 0)), (1, .ref (gO2 0))] := hl
  unfold wp_Offer_copyTo at h
  refine lv_aload_n hx hb d_Offer_copyTo_0 rfl (lv_at hl 1 rfl) ?_
  refine lv_aload_n hx hb d_Offer_copyTo_1 rfl (lv_at hl 0 rfl) ?_
  refine va_get (D := D) (ci := 1) (v := .int (ω 0 0)) (C := R_Offer) (T := F_Offer) (N := 6) hx hb hts in_Offer hown hK hP 0 rfl rfl 0 (by decide) (hts _ kw_50) (fun _ h9 => h9) rfl d_Offer_copyTo_2 ?_
  refine va_put (D := D) (ci := 1) (v := .int (ω 0 0)) (ty := .int) (C := R_Offer) (T := F_Offer) (N := 6) hx hb hts in_Offer t_Offer tt_Offer n_Offer hown hK hP hD hS 2 rfl rfl 0 (by decide) (hts _ kw_50) (fun _ h9 => h9) rfl (by decide +kernel) rfl rfl (Nat.le_of_ble_eq_true rfl) d_Offer_copyTo_5 (fun H locs hP hD hS => ?_)
  obtain ⟨ω21, eω21⟩ : ∃ z, z = s2 ω2 0 0 (ω 0 0) := ⟨_, rfl⟩
  replace hP : va_P D CL (wOffer k gO ω ++ (wOffer k gO2 ω21)) H := by rw [eω21]; exact hP
  replace hD : va_D A (wOffer k gO ω ++ (wOffer k gO2 ω21)) := by rw [eω21]; exact hD
  replace h := h ω21 eω21
  refine lv_aload_n hx hb d_Offer_copyTo_8 rfl (lv_at hl 1 rfl) ?_
  refine lv_aload_n hx hb d_Offer_copyTo_9 rfl (lv_at hl 0 rfl) ?_
  refine va_get (D := D) (ci := 1) (v := .int (ω 1 0)) (C := R_Offer) (T := F_Offer) (N := 6) hx hb hts in_Offer hown hK hP 0 rfl rfl 1 (by decide) (hts _ kw_53) (fun _ h9 => h9) rfl d_Offer_copyTo_10 ?_
  refine va_put (D := D) (ci := 1) (v := .int (ω 1 0)) (ty := .int) (C := R_Offer) (T := F_Offer) (N := 6) hx hb hts in_Offer t_Offer tt_Offer n_Offer hown hK hP hD hS 2 rfl rfl 1 (by decide) (hts _ kw_53) (fun _ h9 => h9) rfl (by decide +kernel) rfl rfl (Nat.le_of_ble_eq_true rfl) d_Offer_copyTo_13 (fun H locs hP hD hS => ?_)
  obtain ⟨ω22, eω22⟩ : ∃ z, z = s2 ω21 1 0 (ω 1 0) := ⟨_, rfl⟩
  replace hP : va_P D CL (wOffer k gO ω ++ (wOffer k gO2 ω22)) H := by rw [eω22]; exact hP
  replace hD : va_D A (wOffer k gO ω ++ (wOffer k gO2 ω22)) := by rw [eω22]; exact hD
  replace h := h ω22 eω22
  refine lv_aload_n hx hb d_Offer_copyTo_16 rfl (lv_at hl 1 rfl) ?_
  refine lv_aload_n hx hb d_Offer_copyTo_17 rfl (lv_at hl 0 rfl) ?_
  refine va_get (D := D) (ci := 1) (v := .int (ω 2 0)) (C := R_Offer) (T := F_Offer) (N := 6) hx hb hts in_Offer hown hK hP 0 rfl rfl 2 (by decide) (hts _ kw_56) (fun _ h9 => h9) rfl d_Offer_copyTo_18 ?_
  refine va_put (D := D) (ci := 1) (v := .int (ω 2 0)) (ty := .int) (C := R_Offer) (T := F_Offer) (N := 6) hx hb hts in_Offer t_Offer tt_Offer n_Offer hown hK hP hD hS 2 rfl rfl 2 (by decide) (hts _ kw_56) (fun _ h9 => h9) rfl (by decide +kernel) rfl rfl (Nat.le_of_ble_eq_true rfl) d_Offer_copyTo_21 (fun H locs hP hD hS => ?_)
  obtain ⟨ω23, eω23⟩ : ∃ z, z = s2 ω22 2 0 (ω 2 0) := ⟨_, rfl⟩
  replace hP : va_P D CL (wOffer k gO ω ++ (wOffer k gO2 ω23)) H := by rw [eω23]; exact hP
  replace hD : va_D A (wOffer k gO ω ++ (wOffer k gO2 ω23)) := by rw [eω23]; exact hD
  replace h := h ω23 eω23
  refine lv_aload_n hx hb d_Offer_copyTo_24 rfl (lv_at hl 1 rfl) ?_
  refine lv_aload_n hx hb d_Offer_copyTo_25 rfl (lv_at hl 0 rfl) ?_
  refine va_get (D := D) (ci := 1) (v := .int (ω 3 0)) (C := R_Offer) (T := F_Offer) (N := 6) hx hb hts in_Offer hown hK hP 0 rfl rfl 3 (by decide) (hts _ kw_60) (fun _ h9 => h9) rfl d_Offer_copyTo_26 ?_
  refine va_put (D := D) (ci := 1) (v := .int (ω 3 0)) (ty := .int) (C := R_Offer) (T := F_Offer) (N := 6) hx hb hts in_Offer t_Offer tt_Offer n_Offer hown hK hP hD hS 2 rfl rfl 3 (by decide) (hts _ kw_60) (fun _ h9 => h9) rfl (by decide +kernel) rfl rfl (Nat.le_of_ble_eq_true rfl) d_Offer_copyTo_29 (fun H locs hP hD hS => ?_)
  obtain ⟨ω24, eω24⟩ : ∃ z, z = s2 ω23 3 0 (ω 3 0) := ⟨_, rfl⟩
  replace hP : va_P D CL (wOffer k gO ω ++ (wOffer k gO2 ω24)) H := by rw [eω24]; exact hP
  replace hD : va_D A (wOffer k gO ω ++ (wOffer k gO2 ω24)) := by rw [eω24]; exact hD
  replace h := h ω24 eω24
  refine lv_aload_n hx hb d_Offer_copyTo_32 rfl (lv_at hl 1 rfl) ?_
  refine lv_aload_n hx hb d_Offer_copyTo_33 rfl (lv_at hl 0 rfl) ?_
  refine va_get (D := D) (ci := 1) (v := .int (ω 4 0)) (C := R_Offer) (T := F_Offer) (N := 6) hx hb hts in_Offer hown hK hP 0 rfl rfl 4 (by decide) (hts _ kw_65) (fun _ h9 => h9) rfl d_Offer_copyTo_34 ?_
  obtain ⟨hz5, h⟩ := h
  refine va_put (D := D) (ci := 1) (v := .int (ω 4 0)) (ty := .boolean) (C := R_Offer) (T := F_Offer) (N := 6) hx hb hts in_Offer t_Offer tt_Offer n_Offer hown hK hP hD hS 2 rfl rfl 4 (by decide) (hts _ kw_65) (fun _ h9 => h9) rfl (by decide +kernel) hz5.1 hz5.2 (Nat.le_of_ble_eq_true rfl) d_Offer_copyTo_37 (fun H locs hP hD hS => ?_)
  obtain ⟨ω26, eω26⟩ : ∃ z, z = s2 ω24 4 0 (ω 4 0) := ⟨_, rfl⟩
  replace hP : va_P D CL (wOffer k gO ω ++ (wOffer k gO2 ω26)) H := by rw [eω26]; exact hP
  replace hD : va_D A (wOffer k gO ω ++ (wOffer k gO2 ω26)) := by rw [eω26]; exact hD
  replace h := h ω26 eω26
  refine lv_aload_n hx hb d_Offer_copyTo_40 rfl (lv_at hl 0 rfl) ?_
  refine va_get (D := D) (ci := 1) (v := .ref (gO 1)) (C := R_Offer) (T := F_Offer) (N := 6) hx hb hts in_Offer hown hK hP 0 rfl rfl 5 (by decide) (hts _ kw_66) (fun _ h9 => h9) rfl d_Offer_copyTo_41 ?_
  refine lv_iconst (v := 0) hx hb d_Offer_copyTo_44 (by decide) ?_
  refine lv_aload_n hx hb d_Offer_copyTo_45 rfl (lv_at hl 1 rfl) ?_
  refine va_get (D := D) (ci := 1) (v := .ref (gO2 1)) (C := R_Offer) (T := F_Offer) (N := 6) hx hb hts in_Offer hown hK hP 2 rfl rfl 5 (by decide) (hts _ kw_66) (fun _ h9 => h9) rfl d_Offer_copyTo_46 ?_
  refine lv_iconst (v := 0) hx hb d_Offer_copyTo_49 (by decide) ?_
  refine lv_iconst (v := 4) hx hb d_Offer_copyTo_50 (by decide) ?_
  refine va_copyi hx hb (by rw [hml]; exact hl.1.symm) hown (hts _ kw_714) (hts _ kw_617) (hts _ kw_616) (hts _ kw_21) hK hP hD hS 1 3 0 0 rfl rfl rfl rfl rfl (by decide) (by decide) (by decide) (by decide) (by decide) (fun _ _ => rfl) (Nat.le_of_ble_eq_true rfl) (Nat.le_of_ble_eq_true rfl) d_Offer_copyTo_51 (fun H locs hP hD hS => ?_)
  obtain ⟨ω27, eω27⟩ : ∃ z, z = va_up ω26 5 (va_cpy (ω 5) (ω26 5) (Int32.toNatClampNeg 0) (Int32.toNatClampNeg 0) (Int32.toNatClampNeg 4)) := ⟨_, rfl⟩
  replace hP : va_P D CL (wOffer k gO ω ++ (wOffer k gO2 ω27)) H := by rw [eω27]; exact hP
  replace hD : va_D A (wOffer k gO ω ++ (wOffer k gO2 ω27)) := by rw [eω27]; exact hD
  replace h := h ω27 eω27
  exact ret_v (u := ω27) (wf := (fun u : (St) => wOffer k gO ω ++ (wOffer k gO2 u))) C hP hD hS (Nat.zero_le _) (Nat.zero_le _) h d_Offer_copyTo_54
set_option maxHeartbeats 4000000 in
set_option maxRecDepth 100000 in
theorem t_Tariff_looksAt_35 {p : Program} {l : Launch} {e : Env} {s : State} {m : MethodId} {args : Array Value} {below : List Frame} {meth : Method} {c : Code} {A : Nat → Prop} {D : va_G} {k : Nat → ClassId} {gT : Nat → Nat} {go : Nat → Nat → Nat} (C : Cx p s m args meth c D k "PromotionTill$Tariff" b_Tariff_looksAt 3 (some .boolean) A) (N : Nat) (τ : St) (ω : Nat → St) (post : Int32 → (Unit) → Prop) (K_2 : Int32 → Int32 → Prop) (hK_2 : ∀ (x1 : Int32) (x2 : Int32) (H : Heap) (locs : List Loc) (ls : Array Slot), va_P D CL (wTariff k gT τ (fun i => some (go i 0)) ++ (wOffer k (go 0) (ω 0) ++ (wOffer k (go 1) (ω 1) ++ (wOffer k (go 2) (ω 2) ++ (wOffer k (go 3) (ω 3) ++ (wOffer k (go 4) (ω 4) ++ (wOffer k (go 5) (ω 5)))))))) H → va_D A (wTariff k gT τ (fun i => some (go i 0)) ++ (wOffer k (go 0) (ω 0) ++ (wOffer k (go 1) (ω 1) ++ (wOffer k (go 2) (ω 2) ++ (wOffer k (go 3) (ω 3) ++ (wOffer k (go 4) (ω 4) ++ (wOffer k (go 5) (ω 5)))))))) → va_S A s.heap H locs → lv_has ls 3 [(0, .ref (gT 0)), (1, .int x1), (2, .int x2)] → K_2 x1 x2 → W p l e rm_Tariff_looksAt s m args below meth c H locs 0 0 (MQ below (va_Qi post (fun (u : Unit) t => va_P D CL (wTariff k gT τ (fun i => some (go i 0)) ++ (wOffer k (go 0) (ω 0) ++ (wOffer k (go 1) (ω 1) ++ (wOffer k (go 2) (ω 2) ++ (wOffer k (go 3) (ω 3) ++ (wOffer k (go 4) (ω 4) ++ (wOffer k (go 5) (ω 5)))))))) t.heap ∧ va_D A (wTariff k gT τ (fun i => some (go i 0)) ++ (wOffer k (go 0) (ω 0) ++ (wOffer k (go 1) (ω 1) ++ (wOffer k (go 2) (ω 2) ++ (wOffer k (go 3) (ω 3) ++ (wOffer k (go 4) (ω 4) ++ (wOffer k (go 5) (ω 5))))))))) A) args s rm_Tariff_looksAt.cells rm_Tariff_looksAt.slots A) (F0 m 2 ls [])) :
    ∀ (x1 : Int32) (x2 : Int32) (H : Heap) (locs : List Loc) (ls : Array Slot), va_P D CL (wTariff k gT τ (fun i => some (go i 0)) ++ (wOffer k (go 0) (ω 0) ++ (wOffer k (go 1) (ω 1) ++ (wOffer k (go 2) (ω 2) ++ (wOffer k (go 3) (ω 3) ++ (wOffer k (go 4) (ω 4) ++ (wOffer k (go 5) (ω 5)))))))) H → va_D A (wTariff k gT τ (fun i => some (go i 0)) ++ (wOffer k (go 0) (ω 0) ++ (wOffer k (go 1) (ω 1) ++ (wOffer k (go 2) (ω 2) ++ (wOffer k (go 3) (ω 3) ++ (wOffer k (go 4) (ω 4) ++ (wOffer k (go 5) (ω 5)))))))) → va_S A s.heap H locs → lv_has ls 3 [(0, .ref (gT 0)), (1, .int x1), (2, .int x2)] → wp_Tariff_looksAt_35 N τ ω post K_2 x1 x2 → W p l e rm_Tariff_looksAt s m args below meth c H locs 0 0 (MQ below (va_Qi post (fun (u : Unit) t => va_P D CL (wTariff k gT τ (fun i => some (go i 0)) ++ (wOffer k (go 0) (ω 0) ++ (wOffer k (go 1) (ω 1) ++ (wOffer k (go 2) (ω 2) ++ (wOffer k (go 3) (ω 3) ++ (wOffer k (go 4) (ω 4) ++ (wOffer k (go 5) (ω 5)))))))) t.heap ∧ va_D A (wTariff k gT τ (fun i => some (go i 0)) ++ (wOffer k (go 0) (ω 0) ++ (wOffer k (go 1) (ω 1) ++ (wOffer k (go 2) (ω 2) ++ (wOffer k (go 3) (ω 3) ++ (wOffer k (go 4) (ω 4) ++ (wOffer k (go 5) (ω 5))))))))) A) args s rm_Tariff_looksAt.cells rm_Tariff_looksAt.slots A) (F0 m 35 ls []) := by
  obtain ⟨hx, hb, hr, hlk, hml, hown, hts, hK, hA⟩ := id C
  intro x1 x2 H locs ls hP hD hS hl h
  unfold wp_Tariff_looksAt_35 at h
  refine lv_iinc (v := x2 + 1) (lv' := [(2, .int (x2 + 1)), (0, .ref (gT 0)), (1, .int x1)]) hx hb d_Tariff_looksAt_35 hl (k := 2) rfl rfl (by decide) rfl (fun ls hl => ?_)
  refine lv_goto (tgt := 2) hx hb d_Tariff_looksAt_38 (by decide) ?_
  exact hK_2 x1 (x2 + 1) _ _ _ hP hD hS (lv_sub hl [1, 2, 0] rfl) h
set_option maxHeartbeats 4000000 in
set_option maxRecDepth 100000 in
theorem t_Tariff_looksAt_2 {p : Program} {l : Launch} {e : Env} {s : State} {m : MethodId} {args : Array Value} {below : List Frame} {meth : Method} {c : Code} {A : Nat → Prop} {D : va_G} {k : Nat → ClassId} {gT : Nat → Nat} {go : Nat → Nat → Nat} (C : Cx p s m args meth c D k "PromotionTill$Tariff" b_Tariff_looksAt 3 (some .boolean) A) (N : Nat) (τ : St) (ω : Nat → St) (post : Int32 → (Unit) → Prop) :
    ∀ (n : Nat) (x1 : Int32) (x2 : Int32) (H : Heap) (locs : List Loc) (ls : Array Slot), va_P D CL (wTariff k gT τ (fun i => some (go i 0)) ++ (wOffer k (go 0) (ω 0) ++ (wOffer k (go 1) (ω 1) ++ (wOffer k (go 2) (ω 2) ++ (wOffer k (go 3) (ω 3) ++ (wOffer k (go 4) (ω 4) ++ (wOffer k (go 5) (ω 5)))))))) H → va_D A (wTariff k gT τ (fun i => some (go i 0)) ++ (wOffer k (go 0) (ω 0) ++ (wOffer k (go 1) (ω 1) ++ (wOffer k (go 2) (ω 2) ++ (wOffer k (go 3) (ω 3) ++ (wOffer k (go 4) (ω 4) ++ (wOffer k (go 5) (ω 5)))))))) → va_S A s.heap H locs → lv_has ls 3 [(0, .ref (gT 0)), (1, .int x1), (2, .int x2)] → wp_Tariff_looksAt_2 N τ ω post n x1 x2 → W p l e rm_Tariff_looksAt s m args below meth c H locs 0 0 (MQ below (va_Qi post (fun (u : Unit) t => va_P D CL (wTariff k gT τ (fun i => some (go i 0)) ++ (wOffer k (go 0) (ω 0) ++ (wOffer k (go 1) (ω 1) ++ (wOffer k (go 2) (ω 2) ++ (wOffer k (go 3) (ω 3) ++ (wOffer k (go 4) (ω 4) ++ (wOffer k (go 5) (ω 5)))))))) t.heap ∧ va_D A (wTariff k gT τ (fun i => some (go i 0)) ++ (wOffer k (go 0) (ω 0) ++ (wOffer k (go 1) (ω 1) ++ (wOffer k (go 2) (ω 2) ++ (wOffer k (go 3) (ω 3) ++ (wOffer k (go 4) (ω 4) ++ (wOffer k (go 5) (ω 5))))))))) A) args s rm_Tariff_looksAt.cells rm_Tariff_looksAt.slots A) (F0 m 2 ls []) := by
  obtain ⟨hx, hb, hr, hlk, hml, hown, hts, hK, hA⟩ := id C
  intro n
  induction n with
  | zero =>
    intro x1 x2 H locs ls hP hD hS hl h
    exact absurd h (by simp [wp_Tariff_looksAt_2])
  | succ n ih =>
    intro x1 x2 H locs ls hP hD hS hl h
    rw [wp_Tariff_looksAt_2] at h
    refine lv_iload_n hx hb d_Tariff_looksAt_2 rfl (lv_at hl 2 rfl) ?_
    refine lv_bipush (v := 6) hx hb d_Tariff_looksAt_3 (by decide) ?_
    refine lv_icmp_ge (tgt := 41) hx hb d_Tariff_looksAt_5 (by decide) (fun c1 => ?_) (fun c1 => ?_)
    · replace h := h.1 c1
      refine lv_iconst (v := 0) hx hb d_Tariff_looksAt_41 (by decide) ?_
      exact ret_z (u := ()) (wf := (fun u : Unit => wTariff k gT τ (fun i => some (go i 0)) ++ (wOffer k (go 0) (ω 0) ++ (wOffer k (go 1) (ω 1) ++ (wOffer k (go 2) (ω 2) ++ (wOffer k (go 3) (ω 3) ++ (wOffer k (go 4) (ω 4) ++ (wOffer k (go 5) (ω 5))))))))) C rfl hP hD hS (Nat.zero_le _) (Nat.zero_le _) h d_Tariff_looksAt_42
    · replace h := h.2 c1
      refine lv_aload_n hx hb d_Tariff_looksAt_8 rfl (lv_at hl 0 rfl) ?_
      refine va_get (D := D) (ci := 5) (v := .ref (gT 2)) (C := R_Tariff) (T := F_Tariff) (N := 2) hx hb hts in_Tariff hown hK hP 0 rfl rfl 1 (by decide) (hts _ kw_86) (fun _ h9 => h9) rfl d_Tariff_looksAt_9 ?_
      refine lv_iload_n hx hb d_Tariff_looksAt_12 rfl (lv_at hl 2 rfl) ?_
      obtain ⟨hi2, h⟩ := h
      refine va_aldq hx hb hK hP 2 3 rfl rfl hi2 d_Tariff_looksAt_13 ?_
      obtain ⟨i9, hi9, e9⟩ := vp_in_of hi2 (by decide)
      rcases (show i9 = 0 ∨ i9 = 1 ∨ i9 = 2 ∨ i9 = 3 ∨ i9 = 4 ∨ i9 = 5 by omega) with rfl | rfl | rfl | rfl | rfl | rfl
      · subst e9
        try simp only [show (nI 0).toNatClampNeg = 0 from rfl] at h
        refine W.eq (g2 := F0 m 14 ls [.ref ((go 0) 0)]) rfl ?_
        refine va_get (D := D) (ci := 1) (v := .int ((ω 0) 4 0)) (C := R_Offer) (T := F_Offer) (N := 6) hx hb hts in_Offer hown hK hP 3 rfl rfl 4 (by decide) (hts _ kw_61) (fun _ h9 => h9) rfl d_Tariff_looksAt_14 ?_
        refine lv_if_eq (tgt := 35) hx hb d_Tariff_looksAt_17 (by decide) (fun c3 => ?_) (fun c3 => ?_)
        · replace h := h.1 c3
          exact t_Tariff_looksAt_35 C N τ ω post (wp_Tariff_looksAt_2 N τ ω post n) ih x1 (nI 0) _ _ _ hP hD hS (lv_sub hl [0, 1, 2] rfl) h
        · replace h := h.2 c3
          refine lv_aload_n hx hb d_Tariff_looksAt_20 rfl (lv_at hl 0 rfl) ?_
          refine va_get (D := D) (ci := 5) (v := .ref (gT 2)) (C := R_Tariff) (T := F_Tariff) (N := 2) hx hb hts in_Tariff hown hK hP 0 rfl rfl 1 (by decide) (hts _ kw_86) (fun _ h9 => h9) rfl d_Tariff_looksAt_21 ?_
          refine lv_iload_n hx hb d_Tariff_looksAt_24 rfl (lv_at hl 2 rfl) ?_
          obtain ⟨hi4, h⟩ := h
          refine va_aldq hx hb hK hP 2 3 rfl rfl hi4 d_Tariff_looksAt_25 ?_
          refine W.eq (g2 := F0 m 26 ls [.ref ((go 0) 0)]) rfl ?_
          refine lv_iload_n hx hb d_Tariff_looksAt_26 rfl (lv_at hl 1 rfl) ?_
          refine call_i (wr := [(gT 0, .inr (5, [.ref (gT 1), .ref (gT 2)])), (gT 1, .inl (k 0, 12, .inl (τ 0))), (gT 2, .inl (k 3, 6, .inr (.inr (.inr (.inr (fun i => some (go i 0))))))), ((go 1) 0, .inr (1, [.int ((ω 1) 0 0), .int ((ω 1) 1 0), .int ((ω 1) 2 0), .int ((ω 1) 3 0), .int ((ω 1) 4 0), .ref ((go 1) 1)])), ((go 1) 1, .inl (k 0, 4, .inl ((ω 1) 5))), ((go 2) 0, .inr (1, [.int ((ω 2) 0 0), .int ((ω 2) 1 0), .int ((ω 2) 2 0), .int ((ω 2) 3 0), .int ((ω 2) 4 0), .ref ((go 2) 1)])), ((go 2) 1, .inl (k 0, 4, .inl ((ω 2) 5))), ((go 3) 0, .inr (1, [.int ((ω 3) 0 0), .int ((ω 3) 1 0), .int ((ω 3) 2 0), .int ((ω 3) 3 0), .int ((ω 3) 4 0), .ref ((go 3) 1)])), ((go 3) 1, .inl (k 0, 4, .inl ((ω 3) 5))), ((go 4) 0, .inr (1, [.int ((ω 4) 0 0), .int ((ω 4) 1 0), .int ((ω 4) 2 0), .int ((ω 4) 3 0), .int ((ω 4) 4 0), .ref ((go 4) 1)])), ((go 4) 1, .inl (k 0, 4, .inl ((ω 4) 5))), ((go 5) 0, .inr (1, [.int ((ω 5) 0 0), .int ((ω 5) 1 0), .int ((ω 5) 2 0), .int ((ω 5) 3 0), .int ((ω 5) 4 0), .ref ((go 5) 1)])), ((go 5) 1, .inl (k 0, 4, .inl ((ω 5) 5)))]) (wn := (fun u5 : Unit => wTariff k gT τ (fun i => some (go i 0)) ++ (wOffer k (go 0) (ω 0) ++ (wOffer k (go 1) (ω 1) ++ (wOffer k (go 2) (ω 2) ++ (wOffer k (go 3) (ω 3) ++ (wOffer k (go 4) (ω 4) ++ (wOffer k (go 5) (ω 5))))))))) C hP hD hS [3, 4] [0, 1, 2, 5, 6, 7, 8, 9, 10, 11, 12, 13, 14] [0, 1, 2, 13, 14, 3, 4, 5, 6, 7, 8, 9, 10, 11, 12] rfl rfl (by decide) (by decide) (fun _ => rfl) (by decide) (runV (As := [.int x1]) (rest := []) C (hP.sub [3, 4] rfl) (hD.sub [3, 4] (by decide) rfl) (m_Offer_looksAt N (go 0) (ω 0) x1  _ h H.size) kw_439 kw_440 kw_441 kw_4 kw_442 hd_Offer_looksAt ⟨Nat.le_of_ble_eq_true rfl, Nat.le_of_ble_eq_true rfl⟩ ⟨Nat.le_of_ble_eq_true rfl, Nat.le_of_ble_eq_true rfl⟩ 0 rfl rfl rfl rfl hl.1 (Nat.le_of_ble_eq_true rfl) d_Tariff_looksAt_27) (fun r6 u5 H locs h hP hD hS => ?_)
          try dsimp only at h
          refine lv_if_eq (tgt := 35) hx hb d_Tariff_looksAt_30 (by decide) (fun c7 => ?_) (fun c7 => ?_)
          · replace h := h.1 c7
            exact t_Tariff_looksAt_35 C N τ ω post (wp_Tariff_looksAt_2 N τ ω post n) ih x1 (nI 0) _ _ _ hP hD hS (lv_sub hl [0, 1, 2] rfl) h
          · replace h := h.2 c7
            refine lv_iconst (v := 1) hx hb d_Tariff_looksAt_33 (by decide) ?_
            exact ret_z (u := ()) (wf := (fun u : Unit => wTariff k gT τ (fun i => some (go i 0)) ++ (wOffer k (go 0) (ω 0) ++ (wOffer k (go 1) (ω 1) ++ (wOffer k (go 2) (ω 2) ++ (wOffer k (go 3) (ω 3) ++ (wOffer k (go 4) (ω 4) ++ (wOffer k (go 5) (ω 5))))))))) C rfl hP hD hS (Nat.zero_le _) (Nat.zero_le _) h d_Tariff_looksAt_34
      · subst e9
        try simp only [show (nI 1).toNatClampNeg = 1 from rfl] at h
        refine W.eq (g2 := F0 m 14 ls [.ref ((go 1) 0)]) rfl ?_
        refine va_get (D := D) (ci := 1) (v := .int ((ω 1) 4 0)) (C := R_Offer) (T := F_Offer) (N := 6) hx hb hts in_Offer hown hK hP 5 rfl rfl 4 (by decide) (hts _ kw_61) (fun _ h9 => h9) rfl d_Tariff_looksAt_14 ?_
        refine lv_if_eq (tgt := 35) hx hb d_Tariff_looksAt_17 (by decide) (fun c3 => ?_) (fun c3 => ?_)
        · replace h := h.1 c3
          exact t_Tariff_looksAt_35 C N τ ω post (wp_Tariff_looksAt_2 N τ ω post n) ih x1 (nI 1) _ _ _ hP hD hS (lv_sub hl [0, 1, 2] rfl) h
        · replace h := h.2 c3
          refine lv_aload_n hx hb d_Tariff_looksAt_20 rfl (lv_at hl 0 rfl) ?_
          refine va_get (D := D) (ci := 5) (v := .ref (gT 2)) (C := R_Tariff) (T := F_Tariff) (N := 2) hx hb hts in_Tariff hown hK hP 0 rfl rfl 1 (by decide) (hts _ kw_86) (fun _ h9 => h9) rfl d_Tariff_looksAt_21 ?_
          refine lv_iload_n hx hb d_Tariff_looksAt_24 rfl (lv_at hl 2 rfl) ?_
          obtain ⟨hi4, h⟩ := h
          refine va_aldq hx hb hK hP 2 3 rfl rfl hi4 d_Tariff_looksAt_25 ?_
          refine W.eq (g2 := F0 m 26 ls [.ref ((go 1) 0)]) rfl ?_
          refine lv_iload_n hx hb d_Tariff_looksAt_26 rfl (lv_at hl 1 rfl) ?_
          refine call_i (wr := [(gT 0, .inr (5, [.ref (gT 1), .ref (gT 2)])), (gT 1, .inl (k 0, 12, .inl (τ 0))), (gT 2, .inl (k 3, 6, .inr (.inr (.inr (.inr (fun i => some (go i 0))))))), ((go 0) 0, .inr (1, [.int ((ω 0) 0 0), .int ((ω 0) 1 0), .int ((ω 0) 2 0), .int ((ω 0) 3 0), .int ((ω 0) 4 0), .ref ((go 0) 1)])), ((go 0) 1, .inl (k 0, 4, .inl ((ω 0) 5))), ((go 2) 0, .inr (1, [.int ((ω 2) 0 0), .int ((ω 2) 1 0), .int ((ω 2) 2 0), .int ((ω 2) 3 0), .int ((ω 2) 4 0), .ref ((go 2) 1)])), ((go 2) 1, .inl (k 0, 4, .inl ((ω 2) 5))), ((go 3) 0, .inr (1, [.int ((ω 3) 0 0), .int ((ω 3) 1 0), .int ((ω 3) 2 0), .int ((ω 3) 3 0), .int ((ω 3) 4 0), .ref ((go 3) 1)])), ((go 3) 1, .inl (k 0, 4, .inl ((ω 3) 5))), ((go 4) 0, .inr (1, [.int ((ω 4) 0 0), .int ((ω 4) 1 0), .int ((ω 4) 2 0), .int ((ω 4) 3 0), .int ((ω 4) 4 0), .ref ((go 4) 1)])), ((go 4) 1, .inl (k 0, 4, .inl ((ω 4) 5))), ((go 5) 0, .inr (1, [.int ((ω 5) 0 0), .int ((ω 5) 1 0), .int ((ω 5) 2 0), .int ((ω 5) 3 0), .int ((ω 5) 4 0), .ref ((go 5) 1)])), ((go 5) 1, .inl (k 0, 4, .inl ((ω 5) 5)))]) (wn := (fun u5 : Unit => wTariff k gT τ (fun i => some (go i 0)) ++ (wOffer k (go 0) (ω 0) ++ (wOffer k (go 1) (ω 1) ++ (wOffer k (go 2) (ω 2) ++ (wOffer k (go 3) (ω 3) ++ (wOffer k (go 4) (ω 4) ++ (wOffer k (go 5) (ω 5))))))))) C hP hD hS [5, 6] [0, 1, 2, 3, 4, 7, 8, 9, 10, 11, 12, 13, 14] [0, 1, 2, 3, 4, 13, 14, 5, 6, 7, 8, 9, 10, 11, 12] rfl rfl (by decide) (by decide) (fun _ => rfl) (by decide) (runV (As := [.int x1]) (rest := []) C (hP.sub [5, 6] rfl) (hD.sub [5, 6] (by decide) rfl) (m_Offer_looksAt N (go 1) (ω 1) x1  _ h H.size) kw_439 kw_440 kw_441 kw_4 kw_442 hd_Offer_looksAt ⟨Nat.le_of_ble_eq_true rfl, Nat.le_of_ble_eq_true rfl⟩ ⟨Nat.le_of_ble_eq_true rfl, Nat.le_of_ble_eq_true rfl⟩ 0 rfl rfl rfl rfl hl.1 (Nat.le_of_ble_eq_true rfl) d_Tariff_looksAt_27) (fun r6 u5 H locs h hP hD hS => ?_)
          try dsimp only at h
          refine lv_if_eq (tgt := 35) hx hb d_Tariff_looksAt_30 (by decide) (fun c7 => ?_) (fun c7 => ?_)
          · replace h := h.1 c7
            exact t_Tariff_looksAt_35 C N τ ω post (wp_Tariff_looksAt_2 N τ ω post n) ih x1 (nI 1) _ _ _ hP hD hS (lv_sub hl [0, 1, 2] rfl) h
          · replace h := h.2 c7
            refine lv_iconst (v := 1) hx hb d_Tariff_looksAt_33 (by decide) ?_
            exact ret_z (u := ()) (wf := (fun u : Unit => wTariff k gT τ (fun i => some (go i 0)) ++ (wOffer k (go 0) (ω 0) ++ (wOffer k (go 1) (ω 1) ++ (wOffer k (go 2) (ω 2) ++ (wOffer k (go 3) (ω 3) ++ (wOffer k (go 4) (ω 4) ++ (wOffer k (go 5) (ω 5))))))))) C rfl hP hD hS (Nat.zero_le _) (Nat.zero_le _) h d_Tariff_looksAt_34
      · subst e9
        try simp only [show (nI 2).toNatClampNeg = 2 from rfl] at h
        refine W.eq (g2 := F0 m 14 ls [.ref ((go 2) 0)]) rfl ?_
        refine va_get (D := D) (ci := 1) (v := .int ((ω 2) 4 0)) (C := R_Offer) (T := F_Offer) (N := 6) hx hb hts in_Offer hown hK hP 7 rfl rfl 4 (by decide) (hts _ kw_61) (fun _ h9 => h9) rfl d_Tariff_looksAt_14 ?_
        refine lv_if_eq (tgt := 35) hx hb d_Tariff_looksAt_17 (by decide) (fun c3 => ?_) (fun c3 => ?_)
        · replace h := h.1 c3
          exact t_Tariff_looksAt_35 C N τ ω post (wp_Tariff_looksAt_2 N τ ω post n) ih x1 (nI 2) _ _ _ hP hD hS (lv_sub hl [0, 1, 2] rfl) h
        · replace h := h.2 c3
          refine lv_aload_n hx hb d_Tariff_looksAt_20 rfl (lv_at hl 0 rfl) ?_
          refine va_get (D := D) (ci := 5) (v := .ref (gT 2)) (C := R_Tariff) (T := F_Tariff) (N := 2) hx hb hts in_Tariff hown hK hP 0 rfl rfl 1 (by decide) (hts _ kw_86) (fun _ h9 => h9) rfl d_Tariff_looksAt_21 ?_
          refine lv_iload_n hx hb d_Tariff_looksAt_24 rfl (lv_at hl 2 rfl) ?_
          obtain ⟨hi4, h⟩ := h
          refine va_aldq hx hb hK hP 2 3 rfl rfl hi4 d_Tariff_looksAt_25 ?_
          refine W.eq (g2 := F0 m 26 ls [.ref ((go 2) 0)]) rfl ?_
          refine lv_iload_n hx hb d_Tariff_looksAt_26 rfl (lv_at hl 1 rfl) ?_
          refine call_i (wr := [(gT 0, .inr (5, [.ref (gT 1), .ref (gT 2)])), (gT 1, .inl (k 0, 12, .inl (τ 0))), (gT 2, .inl (k 3, 6, .inr (.inr (.inr (.inr (fun i => some (go i 0))))))), ((go 0) 0, .inr (1, [.int ((ω 0) 0 0), .int ((ω 0) 1 0), .int ((ω 0) 2 0), .int ((ω 0) 3 0), .int ((ω 0) 4 0), .ref ((go 0) 1)])), ((go 0) 1, .inl (k 0, 4, .inl ((ω 0) 5))), ((go 1) 0, .inr (1, [.int ((ω 1) 0 0), .int ((ω 1) 1 0), .int ((ω 1) 2 0), .int ((ω 1) 3 0), .int ((ω 1) 4 0), .ref ((go 1) 1)])), ((go 1) 1, .inl (k 0, 4, .inl ((ω 1) 5))), ((go 3) 0, .inr (1, [.int ((ω 3) 0 0), .int ((ω 3) 1 0), .int ((ω 3) 2 0), .int ((ω 3) 3 0), .int ((ω 3) 4 0), .ref ((go 3) 1)])), ((go 3) 1, .inl (k 0, 4, .inl ((ω 3) 5))), ((go 4) 0, .inr (1, [.int ((ω 4) 0 0), .int ((ω 4) 1 0), .int ((ω 4) 2 0), .int ((ω 4) 3 0), .int ((ω 4) 4 0), .ref ((go 4) 1)])), ((go 4) 1, .inl (k 0, 4, .inl ((ω 4) 5))), ((go 5) 0, .inr (1, [.int ((ω 5) 0 0), .int ((ω 5) 1 0), .int ((ω 5) 2 0), .int ((ω 5) 3 0), .int ((ω 5) 4 0), .ref ((go 5) 1)])), ((go 5) 1, .inl (k 0, 4, .inl ((ω 5) 5)))]) (wn := (fun u5 : Unit => wTariff k gT τ (fun i => some (go i 0)) ++ (wOffer k (go 0) (ω 0) ++ (wOffer k (go 1) (ω 1) ++ (wOffer k (go 2) (ω 2) ++ (wOffer k (go 3) (ω 3) ++ (wOffer k (go 4) (ω 4) ++ (wOffer k (go 5) (ω 5))))))))) C hP hD hS [7, 8] [0, 1, 2, 3, 4, 5, 6, 9, 10, 11, 12, 13, 14] [0, 1, 2, 3, 4, 5, 6, 13, 14, 7, 8, 9, 10, 11, 12] rfl rfl (by decide) (by decide) (fun _ => rfl) (by decide) (runV (As := [.int x1]) (rest := []) C (hP.sub [7, 8] rfl) (hD.sub [7, 8] (by decide) rfl) (m_Offer_looksAt N (go 2) (ω 2) x1  _ h H.size) kw_439 kw_440 kw_441 kw_4 kw_442 hd_Offer_looksAt ⟨Nat.le_of_ble_eq_true rfl, Nat.le_of_ble_eq_true rfl⟩ ⟨Nat.le_of_ble_eq_true rfl, Nat.le_of_ble_eq_true rfl⟩ 0 rfl rfl rfl rfl hl.1 (Nat.le_of_ble_eq_true rfl) d_Tariff_looksAt_27) (fun r6 u5 H locs h hP hD hS => ?_)
          try dsimp only at h
          refine lv_if_eq (tgt := 35) hx hb d_Tariff_looksAt_30 (by decide) (fun c7 => ?_) (fun c7 => ?_)
          · replace h := h.1 c7
            exact t_Tariff_looksAt_35 C N τ ω post (wp_Tariff_looksAt_2 N τ ω post n) ih x1 (nI 2) _ _ _ hP hD hS (lv_sub hl [0, 1, 2] rfl) h
          · replace h := h.2 c7
            refine lv_iconst (v := 1) hx hb d_Tariff_looksAt_33 (by decide) ?_
            exact ret_z (u := ()) (wf := (fun u : Unit => wTariff k gT τ (fun i => some (go i 0)) ++ (wOffer k (go 0) (ω 0) ++ (wOffer k (go 1) (ω 1) ++ (wOffer k (go 2) (ω 2) ++ (wOffer k (go 3) (ω 3) ++ (wOffer k (go 4) (ω 4) ++ (wOffer k (go 5) (ω 5))))))))) C rfl hP hD hS (Nat.zero_le _) (Nat.zero_le _) h d_Tariff_looksAt_34
      · subst e9
        try simp only [show (nI 3).toNatClampNeg = 3 from rfl] at h
        refine W.eq (g2 := F0 m 14 ls [.ref ((go 3) 0)]) rfl ?_
        refine va_get (D := D) (ci := 1) (v := .int ((ω 3) 4 0)) (C := R_Offer) (T := F_Offer) (N := 6) hx hb hts in_Offer hown hK hP 9 rfl rfl 4 (by decide) (hts _ kw_61) (fun _ h9 => h9) rfl d_Tariff_looksAt_14 ?_
        refine lv_if_eq (tgt := 35) hx hb d_Tariff_looksAt_17 (by decide) (fun c3 => ?_) (fun c3 => ?_)
        · replace h := h.1 c3
          exact t_Tariff_looksAt_35 C N τ ω post (wp_Tariff_looksAt_2 N τ ω post n) ih x1 (nI 3) _ _ _ hP hD hS (lv_sub hl [0, 1, 2] rfl) h
        · replace h := h.2 c3
          refine lv_aload_n hx hb d_Tariff_looksAt_20 rfl (lv_at hl 0 rfl) ?_
          refine va_get (D := D) (ci := 5) (v := .ref (gT 2)) (C := R_Tariff) (T := F_Tariff) (N := 2) hx hb hts in_Tariff hown hK hP 0 rfl rfl 1 (by decide) (hts _ kw_86) (fun _ h9 => h9) rfl d_Tariff_looksAt_21 ?_
          refine lv_iload_n hx hb d_Tariff_looksAt_24 rfl (lv_at hl 2 rfl) ?_
          obtain ⟨hi4, h⟩ := h
          refine va_aldq hx hb hK hP 2 3 rfl rfl hi4 d_Tariff_looksAt_25 ?_
          refine W.eq (g2 := F0 m 26 ls [.ref ((go 3) 0)]) rfl ?_
          refine lv_iload_n hx hb d_Tariff_looksAt_26 rfl (lv_at hl 1 rfl) ?_
          refine call_i (wr := [(gT 0, .inr (5, [.ref (gT 1), .ref (gT 2)])), (gT 1, .inl (k 0, 12, .inl (τ 0))), (gT 2, .inl (k 3, 6, .inr (.inr (.inr (.inr (fun i => some (go i 0))))))), ((go 0) 0, .inr (1, [.int ((ω 0) 0 0), .int ((ω 0) 1 0), .int ((ω 0) 2 0), .int ((ω 0) 3 0), .int ((ω 0) 4 0), .ref ((go 0) 1)])), ((go 0) 1, .inl (k 0, 4, .inl ((ω 0) 5))), ((go 1) 0, .inr (1, [.int ((ω 1) 0 0), .int ((ω 1) 1 0), .int ((ω 1) 2 0), .int ((ω 1) 3 0), .int ((ω 1) 4 0), .ref ((go 1) 1)])), ((go 1) 1, .inl (k 0, 4, .inl ((ω 1) 5))), ((go 2) 0, .inr (1, [.int ((ω 2) 0 0), .int ((ω 2) 1 0), .int ((ω 2) 2 0), .int ((ω 2) 3 0), .int ((ω 2) 4 0), .ref ((go 2) 1)])), ((go 2) 1, .inl (k 0, 4, .inl ((ω 2) 5))), ((go 4) 0, .inr (1, [.int ((ω 4) 0 0), .int ((ω 4) 1 0), .int ((ω 4) 2 0), .int ((ω 4) 3 0), .int ((ω 4) 4 0), .ref ((go 4) 1)])), ((go 4) 1, .inl (k 0, 4, .inl ((ω 4) 5))), ((go 5) 0, .inr (1, [.int ((ω 5) 0 0), .int ((ω 5) 1 0), .int ((ω 5) 2 0), .int ((ω 5) 3 0), .int ((ω 5) 4 0), .ref ((go 5) 1)])), ((go 5) 1, .inl (k 0, 4, .inl ((ω 5) 5)))]) (wn := (fun u5 : Unit => wTariff k gT τ (fun i => some (go i 0)) ++ (wOffer k (go 0) (ω 0) ++ (wOffer k (go 1) (ω 1) ++ (wOffer k (go 2) (ω 2) ++ (wOffer k (go 3) (ω 3) ++ (wOffer k (go 4) (ω 4) ++ (wOffer k (go 5) (ω 5))))))))) C hP hD hS [9, 10] [0, 1, 2, 3, 4, 5, 6, 7, 8, 11, 12, 13, 14] [0, 1, 2, 3, 4, 5, 6, 7, 8, 13, 14, 9, 10, 11, 12] rfl rfl (by decide) (by decide) (fun _ => rfl) (by decide) (runV (As := [.int x1]) (rest := []) C (hP.sub [9, 10] rfl) (hD.sub [9, 10] (by decide) rfl) (m_Offer_looksAt N (go 3) (ω 3) x1  _ h H.size) kw_439 kw_440 kw_441 kw_4 kw_442 hd_Offer_looksAt ⟨Nat.le_of_ble_eq_true rfl, Nat.le_of_ble_eq_true rfl⟩ ⟨Nat.le_of_ble_eq_true rfl, Nat.le_of_ble_eq_true rfl⟩ 0 rfl rfl rfl rfl hl.1 (Nat.le_of_ble_eq_true rfl) d_Tariff_looksAt_27) (fun r6 u5 H locs h hP hD hS => ?_)
          try dsimp only at h
          refine lv_if_eq (tgt := 35) hx hb d_Tariff_looksAt_30 (by decide) (fun c7 => ?_) (fun c7 => ?_)
          · replace h := h.1 c7
            exact t_Tariff_looksAt_35 C N τ ω post (wp_Tariff_looksAt_2 N τ ω post n) ih x1 (nI 3) _ _ _ hP hD hS (lv_sub hl [0, 1, 2] rfl) h
          · replace h := h.2 c7
            refine lv_iconst (v := 1) hx hb d_Tariff_looksAt_33 (by decide) ?_
            exact ret_z (u := ()) (wf := (fun u : Unit => wTariff k gT τ (fun i => some (go i 0)) ++ (wOffer k (go 0) (ω 0) ++ (wOffer k (go 1) (ω 1) ++ (wOffer k (go 2) (ω 2) ++ (wOffer k (go 3) (ω 3) ++ (wOffer k (go 4) (ω 4) ++ (wOffer k (go 5) (ω 5))))))))) C rfl hP hD hS (Nat.zero_le _) (Nat.zero_le _) h d_Tariff_looksAt_34
      · subst e9
        try simp only [show (nI 4).toNatClampNeg = 4 from rfl] at h
        refine W.eq (g2 := F0 m 14 ls [.ref ((go 4) 0)]) rfl ?_
        refine va_get (D := D) (ci := 1) (v := .int ((ω 4) 4 0)) (C := R_Offer) (T := F_Offer) (N := 6) hx hb hts in_Offer hown hK hP 11 rfl rfl 4 (by decide) (hts _ kw_61) (fun _ h9 => h9) rfl d_Tariff_looksAt_14 ?_
        refine lv_if_eq (tgt := 35) hx hb d_Tariff_looksAt_17 (by decide) (fun c3 => ?_) (fun c3 => ?_)
        · replace h := h.1 c3
          exact t_Tariff_looksAt_35 C N τ ω post (wp_Tariff_looksAt_2 N τ ω post n) ih x1 (nI 4) _ _ _ hP hD hS (lv_sub hl [0, 1, 2] rfl) h
        · replace h := h.2 c3
          refine lv_aload_n hx hb d_Tariff_looksAt_20 rfl (lv_at hl 0 rfl) ?_
          refine va_get (D := D) (ci := 5) (v := .ref (gT 2)) (C := R_Tariff) (T := F_Tariff) (N := 2) hx hb hts in_Tariff hown hK hP 0 rfl rfl 1 (by decide) (hts _ kw_86) (fun _ h9 => h9) rfl d_Tariff_looksAt_21 ?_
          refine lv_iload_n hx hb d_Tariff_looksAt_24 rfl (lv_at hl 2 rfl) ?_
          obtain ⟨hi4, h⟩ := h
          refine va_aldq hx hb hK hP 2 3 rfl rfl hi4 d_Tariff_looksAt_25 ?_
          refine W.eq (g2 := F0 m 26 ls [.ref ((go 4) 0)]) rfl ?_
          refine lv_iload_n hx hb d_Tariff_looksAt_26 rfl (lv_at hl 1 rfl) ?_
          refine call_i (wr := [(gT 0, .inr (5, [.ref (gT 1), .ref (gT 2)])), (gT 1, .inl (k 0, 12, .inl (τ 0))), (gT 2, .inl (k 3, 6, .inr (.inr (.inr (.inr (fun i => some (go i 0))))))), ((go 0) 0, .inr (1, [.int ((ω 0) 0 0), .int ((ω 0) 1 0), .int ((ω 0) 2 0), .int ((ω 0) 3 0), .int ((ω 0) 4 0), .ref ((go 0) 1)])), ((go 0) 1, .inl (k 0, 4, .inl ((ω 0) 5))), ((go 1) 0, .inr (1, [.int ((ω 1) 0 0), .int ((ω 1) 1 0), .int ((ω 1) 2 0), .int ((ω 1) 3 0), .int ((ω 1) 4 0), .ref ((go 1) 1)])), ((go 1) 1, .inl (k 0, 4, .inl ((ω 1) 5))), ((go 2) 0, .inr (1, [.int ((ω 2) 0 0), .int ((ω 2) 1 0), .int ((ω 2) 2 0), .int ((ω 2) 3 0), .int ((ω 2) 4 0), .ref ((go 2) 1)])), ((go 2) 1, .inl (k 0, 4, .inl ((ω 2) 5))), ((go 3) 0, .inr (1, [.int ((ω 3) 0 0), .int ((ω 3) 1 0), .int ((ω 3) 2 0), .int ((ω 3) 3 0), .int ((ω 3) 4 0), .ref ((go 3) 1)])), ((go 3) 1, .inl (k 0, 4, .inl ((ω 3) 5))), ((go 5) 0, .inr (1, [.int ((ω 5) 0 0), .int ((ω 5) 1 0), .int ((ω 5) 2 0), .int ((ω 5) 3 0), .int ((ω 5) 4 0), .ref ((go 5) 1)])), ((go 5) 1, .inl (k 0, 4, .inl ((ω 5) 5)))]) (wn := (fun u5 : Unit => wTariff k gT τ (fun i => some (go i 0)) ++ (wOffer k (go 0) (ω 0) ++ (wOffer k (go 1) (ω 1) ++ (wOffer k (go 2) (ω 2) ++ (wOffer k (go 3) (ω 3) ++ (wOffer k (go 4) (ω 4) ++ (wOffer k (go 5) (ω 5))))))))) C hP hD hS [11, 12] [0, 1, 2, 3, 4, 5, 6, 7, 8, 9, 10, 13, 14] [0, 1, 2, 3, 4, 5, 6, 7, 8, 9, 10, 13, 14, 11, 12] rfl rfl (by decide) (by decide) (fun _ => rfl) (by decide) (runV (As := [.int x1]) (rest := []) C (hP.sub [11, 12] rfl) (hD.sub [11, 12] (by decide) rfl) (m_Offer_looksAt N (go 4) (ω 4) x1  _ h H.size) kw_439 kw_440 kw_441 kw_4 kw_442 hd_Offer_looksAt ⟨Nat.le_of_ble_eq_true rfl, Nat.le_of_ble_eq_true rfl⟩ ⟨Nat.le_of_ble_eq_true rfl, Nat.le_of_ble_eq_true rfl⟩ 0 rfl rfl rfl rfl hl.1 (Nat.le_of_ble_eq_true rfl) d_Tariff_looksAt_27) (fun r6 u5 H locs h hP hD hS => ?_)
          try dsimp only at h
          refine lv_if_eq (tgt := 35) hx hb d_Tariff_looksAt_30 (by decide) (fun c7 => ?_) (fun c7 => ?_)
          · replace h := h.1 c7
            exact t_Tariff_looksAt_35 C N τ ω post (wp_Tariff_looksAt_2 N τ ω post n) ih x1 (nI 4) _ _ _ hP hD hS (lv_sub hl [0, 1, 2] rfl) h
          · replace h := h.2 c7
            refine lv_iconst (v := 1) hx hb d_Tariff_looksAt_33 (by decide) ?_
            exact ret_z (u := ()) (wf := (fun u : Unit => wTariff k gT τ (fun i => some (go i 0)) ++ (wOffer k (go 0) (ω 0) ++ (wOffer k (go 1) (ω 1) ++ (wOffer k (go 2) (ω 2) ++ (wOffer k (go 3) (ω 3) ++ (wOffer k (go 4) (ω 4) ++ (wOffer k (go 5) (ω 5))))))))) C rfl hP hD hS (Nat.zero_le _) (Nat.zero_le _) h d_Tariff_looksAt_34
      · subst e9
        try simp only [show (nI 5).toNatClampNeg = 5 from rfl] at h
        refine W.eq (g2 := F0 m 14 ls [.ref ((go 5) 0)]) rfl ?_
        refine va_get (D := D) (ci := 1) (v := .int ((ω 5) 4 0)) (C := R_Offer) (T := F_Offer) (N := 6) hx hb hts in_Offer hown hK hP 13 rfl rfl 4 (by decide) (hts _ kw_61) (fun _ h9 => h9) rfl d_Tariff_looksAt_14 ?_
        refine lv_if_eq (tgt := 35) hx hb d_Tariff_looksAt_17 (by decide) (fun c3 => ?_) (fun c3 => ?_)
        · replace h := h.1 c3
          exact t_Tariff_looksAt_35 C N τ ω post (wp_Tariff_looksAt_2 N τ ω post n) ih x1 (nI 5) _ _ _ hP hD hS (lv_sub hl [0, 1, 2] rfl) h
        · replace h := h.2 c3
          refine lv_aload_n hx hb d_Tariff_looksAt_20 rfl (lv_at hl 0 rfl) ?_
          refine va_get (D := D) (ci := 5) (v := .ref (gT 2)) (C := R_Tariff) (T := F_Tariff) (N := 2) hx hb hts in_Tariff hown hK hP 0 rfl rfl 1 (by decide) (hts _ kw_86) (fun _ h9 => h9) rfl d_Tariff_looksAt_21 ?_
          refine lv_iload_n hx hb d_Tariff_looksAt_24 rfl (lv_at hl 2 rfl) ?_
          obtain ⟨hi4, h⟩ := h
          refine va_aldq hx hb hK hP 2 3 rfl rfl hi4 d_Tariff_looksAt_25 ?_
          refine W.eq (g2 := F0 m 26 ls [.ref ((go 5) 0)]) rfl ?_
          refine lv_iload_n hx hb d_Tariff_looksAt_26 rfl (lv_at hl 1 rfl) ?_
          refine call_i (wr := [(gT 0, .inr (5, [.ref (gT 1), .ref (gT 2)])), (gT 1, .inl (k 0, 12, .inl (τ 0))), (gT 2, .inl (k 3, 6, .inr (.inr (.inr (.inr (fun i => some (go i 0))))))), ((go 0) 0, .inr (1, [.int ((ω 0) 0 0), .int ((ω 0) 1 0), .int ((ω 0) 2 0), .int ((ω 0) 3 0), .int ((ω 0) 4 0), .ref ((go 0) 1)])), ((go 0) 1, .inl (k 0, 4, .inl ((ω 0) 5))), ((go 1) 0, .inr (1, [.int ((ω 1) 0 0), .int ((ω 1) 1 0), .int ((ω 1) 2 0), .int ((ω 1) 3 0), .int ((ω 1) 4 0), .ref ((go 1) 1)])), ((go 1) 1, .inl (k 0, 4, .inl ((ω 1) 5))), ((go 2) 0, .inr (1, [.int ((ω 2) 0 0), .int ((ω 2) 1 0), .int ((ω 2) 2 0), .int ((ω 2) 3 0), .int ((ω 2) 4 0), .ref ((go 2) 1)])), ((go 2) 1, .inl (k 0, 4, .inl ((ω 2) 5))), ((go 3) 0, .inr (1, [.int ((ω 3) 0 0), .int ((ω 3) 1 0), .int ((ω 3) 2 0), .int ((ω 3) 3 0), .int ((ω 3) 4 0), .ref ((go 3) 1)])), ((go 3) 1, .inl (k 0, 4, .inl ((ω 3) 5))), ((go 4) 0, .inr (1, [.int ((ω 4) 0 0), .int ((ω 4) 1 0), .int ((ω 4) 2 0), .int ((ω 4) 3 0), .int ((ω 4) 4 0), .ref ((go 4) 1)])), ((go 4) 1, .inl (k 0, 4, .inl ((ω 4) 5)))]) (wn := (fun u5 : Unit => wTariff k gT τ (fun i => some (go i 0)) ++ (wOffer k (go 0) (ω 0) ++ (wOffer k (go 1) (ω 1) ++ (wOffer k (go 2) (ω 2) ++ (wOffer k (go 3) (ω 3) ++ (wOffer k (go 4) (ω 4) ++ (wOffer k (go 5) (ω 5))))))))) C hP hD hS [13, 14] [0, 1, 2, 3, 4, 5, 6, 7, 8, 9, 10, 11, 12] [0, 1, 2, 3, 4, 5, 6, 7, 8, 9, 10, 11, 12, 13, 14] rfl rfl (by decide) (by decide) (fun _ => rfl) (by decide) (runV (As := [.int x1]) (rest := []) C (hP.sub [13, 14] rfl) (hD.sub [13, 14] (by decide) rfl) (m_Offer_looksAt N (go 5) (ω 5) x1  _ h H.size) kw_439 kw_440 kw_441 kw_4 kw_442 hd_Offer_looksAt ⟨Nat.le_of_ble_eq_true rfl, Nat.le_of_ble_eq_true rfl⟩ ⟨Nat.le_of_ble_eq_true rfl, Nat.le_of_ble_eq_true rfl⟩ 0 rfl rfl rfl rfl hl.1 (Nat.le_of_ble_eq_true rfl) d_Tariff_looksAt_27) (fun r6 u5 H locs h hP hD hS => ?_)
          try dsimp only at h
          refine lv_if_eq (tgt := 35) hx hb d_Tariff_looksAt_30 (by decide) (fun c7 => ?_) (fun c7 => ?_)
          · replace h := h.1 c7
            exact t_Tariff_looksAt_35 C N τ ω post (wp_Tariff_looksAt_2 N τ ω post n) ih x1 (nI 5) _ _ _ hP hD hS (lv_sub hl [0, 1, 2] rfl) h
          · replace h := h.2 c7
            refine lv_iconst (v := 1) hx hb d_Tariff_looksAt_33 (by decide) ?_
            exact ret_z (u := ()) (wf := (fun u : Unit => wTariff k gT τ (fun i => some (go i 0)) ++ (wOffer k (go 0) (ω 0) ++ (wOffer k (go 1) (ω 1) ++ (wOffer k (go 2) (ω 2) ++ (wOffer k (go 3) (ω 3) ++ (wOffer k (go 4) (ω 4) ++ (wOffer k (go 5) (ω 5))))))))) C rfl hP hD hS (Nat.zero_le _) (Nat.zero_le _) h d_Tariff_looksAt_34
set_option maxHeartbeats 4000000 in
set_option maxRecDepth 100000 in
theorem m_Tariff_looksAt {l : Launch} {D : va_G} {k : Nat → ClassId} (N : Nat) (gT : Nat → Nat) (go : Nat → Nat → Nat) (τ : St) (ω : Nat → St) (x1 : Int32) (post : Int32 → (Unit) → Prop) (h : wp_Tariff_looksAt N  τ ω x1 post) : Ci l D k y_Tariff_looksAt b_Tariff_looksAt 3 .boolean rm_Tariff_looksAt [.ref (gT 0), .int x1] (wTariff k gT τ (fun i => some (go i 0)) ++ (wOffer k (go 0) (ω 0) ++ (wOffer k (go 1) (ω 1) ++ (wOffer k (go 2) (ω 2) ++ (wOffer k (go 3) (ω 3) ++ (wOffer k (go 4) (ω 4) ++ (wOffer k (go 5) (ω 5)))))))) (fun u : Unit => wTariff k gT τ (fun i => some (go i 0)) ++ (wOffer k (go 0) (ω 0) ++ (wOffer k (go 1) (ω 1) ++ (wOffer k (go 2) (ω 2) ++ (wOffer k (go 3) (ω 3) ++ (wOffer k (go 4) (ω 4) ++ (wOffer k (go 5) (ω 5)))))))) post := by
  refine Ci.of (by decide) (Nat.le_of_ble_eq_true rfl) ?_
  intro p e s m below meth c A H locs ls C hP hD hS hl
  obtain ⟨hx, hb, hr, hlk, hml, hown, hts, hK, hA⟩ := id C
  replace hl : lv_has ls 3 [(0, .ref (gT 0)), (1, .int x1)] := hl
  unfold wp_Tariff_looksAt at h
  refine lv_iconst (v := 0) hx hb d_Tariff_looksAt_0 (by decide) ?_
  refine lv_istore_n (lv' := [(2, .int 0), (0, .ref (gT 0)), (1, .int x1)]) hx hb d_Tariff_looksAt_1 rfl hl (by decide) rfl (fun ls hl => ?_)
  exact t_Tariff_looksAt_2 C N τ ω post   N x1 0 _ _ _ hP hD hS (lv_sub hl [1, 2, 0] rfl) h
set_option maxHeartbeats 4000000 in
set_option maxRecDepth 100000 in
theorem t_Plan_leaveAllAlone_7 {p : Program} {l : Launch} {e : Env} {s : State} {m : MethodId} {args : Array Value} {below : List Frame} {meth : Method} {c : Code} {A : Nat → Prop} {D : va_G} {k : Nat → ClassId} {gP : Nat → Nat} {gR : Nat → Nat} {gT : Nat → Nat} {gB : Nat → Nat} {f : Nat → Option Nat} (C : Cx p s m args meth c D k "PromotionTill$Plan" b_Plan_leaveAllAlone 4 none A) (N : Nat) (ρ : Nat → Int64) (τ : St) (β : St) (post : ((St)) → Prop) :
    ∀ (n : Nat) (x3 : Int32) (π : (St)) (H : Heap) (locs : List Loc) (ls : Array Slot), va_P D CL (wPlan k gP π (gR 0) ++ (wRem k gR ρ ++ (wTariff k gT τ f ++ (wBasket k gB β)))) H → va_D A (wPlan k gP π (gR 0) ++ (wRem k gR ρ ++ (wTariff k gT τ f ++ (wBasket k gB β)))) → va_S A s.heap H locs → lv_has ls 4 [(0, .ref (gP 0)), (1, .ref (gT 0)), (2, .ref (gB 0)), (3, .int x3)] → wp_Plan_leaveAllAlone_7 N ρ τ β post n x3 π → W p l e rm_Plan_leaveAllAlone s m args below meth c H locs 0 0 (MQ below (va_Qv post (fun (u : (St)) t => va_P D CL (wPlan k gP u (gR 0) ++ (wRem k gR ρ ++ (wTariff k gT τ f ++ (wBasket k gB β)))) t.heap ∧ va_D A (wPlan k gP u (gR 0) ++ (wRem k gR ρ ++ (wTariff k gT τ f ++ (wBasket k gB β))))) A) args s rm_Plan_leaveAllAlone.cells rm_Plan_leaveAllAlone.slots A) (F0 m 7 ls []) := by
  obtain ⟨hx, hb, hr, hlk, hml, hown, hts, hK, hA⟩ := id C
  intro n
  induction n with
  | zero =>
    intro x3 π H locs ls hP hD hS hl h
    exact absurd h (by simp [wp_Plan_leaveAllAlone_7])
  | succ n ih =>
    intro x3 π H locs ls hP hD hS hl h
    rw [wp_Plan_leaveAllAlone_7] at h
    refine lv_iload_n hx hb d_Plan_leaveAllAlone_7 rfl (lv_at hl 3 rfl) ?_
    refine lv_aload_n hx hb d_Plan_leaveAllAlone_8 rfl (lv_at hl 2 rfl) ?_
    refine va_get (D := D) (ci := 0) (v := .int (β 1 0)) (C := R_Basket) (T := F_Basket) (N := 2) hx hb hts in_Basket hown hK hP 9 rfl rfl 1 (by decide) (hts _ kw_107) (fun _ h9 => h9) rfl d_Plan_leaveAllAlone_9 ?_
    refine lv_icmp_ge (tgt := 59) hx hb d_Plan_leaveAllAlone_12 (by decide) (fun c2 => ?_) (fun c2 => ?_)
    · replace h := h.1 c2
      exact ret_v (u := π) (wf := (fun u : (St) => wPlan k gP u (gR 0) ++ (wRem k gR ρ ++ (wTariff k gT τ f ++ (wBasket k gB β))))) C hP hD hS (Nat.zero_le _) (Nat.zero_le _) h d_Plan_leaveAllAlone_59
    · replace h := h.2 c2
      refine lv_aload_n hx hb d_Plan_leaveAllAlone_15 rfl (lv_at hl 0 rfl) ?_
      refine va_get (D := D) (ci := 2) (v := .ref (gP 1)) (C := R_Plan) (T := F_Plan) (N := 6) hx hb hts in_Plan hown hK hP 0 rfl rfl 0 (by decide) (hts _ kw_183) (fun _ h9 => h9) rfl d_Plan_leaveAllAlone_16 ?_
      refine lv_iload_n hx hb d_Plan_leaveAllAlone_19 rfl (lv_at hl 3 rfl) ?_
      refine lv_iconst (v := (-1)) hx hb d_Plan_leaveAllAlone_20 (by decide) ?_
      obtain ⟨hi3, h⟩ := h
      refine va_iast hx hb hK hP hD hS 1 0 rfl rfl hi3 d_Plan_leaveAllAlone_21 (fun H locs hP hD hS => ?_)
      obtain ⟨π4, eπ4⟩ : ∃ z, z = s2 π 0 (Int32.toNatClampNeg x3) (-1) := ⟨_, rfl⟩
      replace hP : va_P D CL (wPlan k gP π4 (gR 0) ++ (wRem k gR ρ ++ (wTariff k gT τ f ++ (wBasket k gB β)))) H := by rw [eπ4]; exact hP
      replace hD : va_D A (wPlan k gP π4 (gR 0) ++ (wRem k gR ρ ++ (wTariff k gT τ f ++ (wBasket k gB β)))) := by rw [eπ4]; exact hD
      replace h := h π4 eπ4
      refine lv_aload_n hx hb d_Plan_leaveAllAlone_22 rfl (lv_at hl 0 rfl) ?_
      refine va_get (D := D) (ci := 2) (v := .ref (gP 2)) (C := R_Plan) (T := F_Plan) (N := 6) hx hb hts in_Plan hown hK hP 0 rfl rfl 1 (by decide) (hts _ kw_186) (fun _ h9 => h9) rfl d_Plan_leaveAllAlone_23 ?_
      refine lv_iload_n hx hb d_Plan_leaveAllAlone_26 rfl (lv_at hl 3 rfl) ?_
      refine lv_iconst (v := (-1)) hx hb d_Plan_leaveAllAlone_27 (by decide) ?_
      obtain ⟨hi5, h⟩ := h
      refine va_iast hx hb hK hP hD hS 2 0 rfl rfl hi5 d_Plan_leaveAllAlone_28 (fun H locs hP hD hS => ?_)
      obtain ⟨π6, eπ6⟩ : ∃ z, z = s2 π4 1 (Int32.toNatClampNeg x3) (-1) := ⟨_, rfl⟩
      replace hP : va_P D CL (wPlan k gP π6 (gR 0) ++ (wRem k gR ρ ++ (wTariff k gT τ f ++ (wBasket k gB β)))) H := by rw [eπ6]; exact hP
      replace hD : va_D A (wPlan k gP π6 (gR 0) ++ (wRem k gR ρ ++ (wTariff k gT τ f ++ (wBasket k gB β)))) := by rw [eπ6]; exact hD
      replace h := h π6 eπ6
      refine lv_aload_n hx hb d_Plan_leaveAllAlone_29 rfl (lv_at hl 0 rfl) ?_
      refine va_get (D := D) (ci := 2) (v := .ref (gP 3)) (C := R_Plan) (T := F_Plan) (N := 6) hx hb hts in_Plan hown hK hP 0 rfl rfl 2 (by decide) (hts _ kw_188) (fun _ h9 => h9) rfl d_Plan_leaveAllAlone_30 ?_
      refine lv_iload_n hx hb d_Plan_leaveAllAlone_33 rfl (lv_at hl 3 rfl) ?_
      refine lv_aload_n hx hb d_Plan_leaveAllAlone_34 rfl (lv_at hl 1 rfl) ?_
      refine va_get (D := D) (ci := 5) (v := .ref (gT 1)) (C := R_Tariff) (T := F_Tariff) (N := 2) hx hb hts in_Tariff hown hK hP 6 rfl rfl 0 (by decide) (hts _ kw_82) (fun _ h9 => h9) rfl d_Plan_leaveAllAlone_35 ?_
      refine lv_aload_n hx hb d_Plan_leaveAllAlone_38 rfl (lv_at hl 2 rfl) ?_
      refine va_get (D := D) (ci := 0) (v := .ref (gB 1)) (C := R_Basket) (T := F_Basket) (N := 2) hx hb hts in_Basket hown hK hP 9 rfl rfl 0 (by decide) (hts _ kw_103) (fun _ h9 => h9) rfl d_Plan_leaveAllAlone_39 ?_
      refine lv_iload_n hx hb d_Plan_leaveAllAlone_42 rfl (lv_at hl 3 rfl) ?_
      obtain ⟨hi7, h⟩ := h
      refine va_iald hx hb hK hP 10 0 rfl rfl hi7 d_Plan_leaveAllAlone_43 ?_
      obtain ⟨hi8, h⟩ := h
      refine va_iald hx hb hK hP 7 0 rfl rfl hi8 d_Plan_leaveAllAlone_44 ?_
      obtain ⟨hi9, h⟩ := h
      refine va_iast hx hb hK hP hD hS 3 0 rfl rfl hi9 d_Plan_leaveAllAlone_45 (fun H locs hP hD hS => ?_)
      obtain ⟨π10, eπ10⟩ : ∃ z, z = s2 π6 2 (Int32.toNatClampNeg x3) (τ 0 (Int32.toNatClampNeg (β 0 (Int32.toNatClampNeg x3)))) := ⟨_, rfl⟩
      replace hP : va_P D CL (wPlan k gP π10 (gR 0) ++ (wRem k gR ρ ++ (wTariff k gT τ f ++ (wBasket k gB β)))) H := by rw [eπ10]; exact hP
      replace hD : va_D A (wPlan k gP π10 (gR 0) ++ (wRem k gR ρ ++ (wTariff k gT τ f ++ (wBasket k gB β)))) := by rw [eπ10]; exact hD
      replace h := h π10 eπ10
      refine lv_aload_n hx hb d_Plan_leaveAllAlone_46 rfl (lv_at hl 0 rfl) ?_
      refine va_get (D := D) (ci := 2) (v := .ref (gP 4)) (C := R_Plan) (T := F_Plan) (N := 6) hx hb hts in_Plan hown hK hP 0 rfl rfl 4 (by decide) (hts _ kw_193) (fun _ h9 => h9) rfl d_Plan_leaveAllAlone_47 ?_
      refine lv_iload_n hx hb d_Plan_leaveAllAlone_50 rfl (lv_at hl 3 rfl) ?_
      refine lv_iconst (v := 0) hx hb d_Plan_leaveAllAlone_51 (by decide) ?_
      obtain ⟨hi11, h⟩ := h
      refine va_zast hx hb hK hP hD hS 4 1 rfl rfl hi11 d_Plan_leaveAllAlone_52 (fun H locs hP hD hS => ?_)
      obtain ⟨π12, eπ12⟩ : ∃ z, z = s2 π10 4 (Int32.toNatClampNeg x3) (vp_nar .boolean 0) := ⟨_, rfl⟩
      replace hP : va_P D CL (wPlan k gP π12 (gR 0) ++ (wRem k gR ρ ++ (wTariff k gT τ f ++ (wBasket k gB β)))) H := by rw [eπ12]; exact hP
      replace hD : va_D A (wPlan k gP π12 (gR 0) ++ (wRem k gR ρ ++ (wTariff k gT τ f ++ (wBasket k gB β)))) := by rw [eπ12]; exact hD
      replace h := h π12 eπ12
      refine lv_iinc (v := x3 + 1) (lv' := [(3, .int (x3 + 1)), (0, .ref (gP 0)), (1, .ref (gT 0)), (2, .ref (gB 0))]) hx hb d_Plan_leaveAllAlone_53 hl (k := 3) rfl rfl (by decide) rfl (fun ls hl => ?_)
      refine lv_goto (tgt := 7) hx hb d_Plan_leaveAllAlone_56 (by decide) ?_
      exact ih (x3 + 1) π12 _ _ _ hP hD hS (lv_sub hl [1, 2, 3, 0] rfl) h
set_option maxHeartbeats 4000000 in
set_option maxRecDepth 100000 in
theorem m_Plan_leaveAllAlone {l : Launch} {D : va_G} {k : Nat → ClassId} (N : Nat) (gP : Nat → Nat) (gR : Nat → Nat) (gT : Nat → Nat) (gB : Nat → Nat) (f : Nat → Option Nat) (π : St) (ρ : Nat → Int64) (τ : St) (β : St) (post : ((St)) → Prop) (h : wp_Plan_leaveAllAlone N  π ρ τ β  post) : Cv l D k y_Plan_leaveAllAlone b_Plan_leaveAllAlone 4 rm_Plan_leaveAllAlone [.ref (gP 0), .ref (gT 0), .ref (gB 0)] (wPlan k gP π (gR 0) ++ (wRem k gR ρ ++ (wTariff k gT τ f ++ (wBasket k gB β)))) (fun u : (St) => wPlan k gP u (gR 0) ++ (wRem k gR ρ ++ (wTariff k gT τ f ++ (wBasket k gB β)))) post := by
  refine Cv.of (by decide) (Nat.le_of_ble_eq_true rfl) ?_
  intro p e s m below meth c A H locs ls C hP hD hS hl
  obtain ⟨hx, hb, hr, hlk, hml, hown, hts, hK, hA⟩ := id C
  replace hl : lv_has ls 4 [(0, .ref (gP 0)), (1, .ref (gT 0)), (2, .ref (gB 0))] := hl
  unfold wp_Plan_leaveAllAlone at h
  refine lv_aload_n hx hb d_Plan_leaveAllAlone_0 rfl (lv_at hl 0 rfl) ?_
  refine lv_iconst (v := 0) hx hb d_Plan_leaveAllAlone_1 (by decide) ?_
  refine va_put (D := D) (ci := 2) (v := .int 0) (ty := .int) (C := R_Plan) (T := F_Plan) (N := 6) hx hb hts in_Plan t_Plan tt_Plan n_Plan hown hK hP hD hS 0 rfl rfl 3 (by decide) (hts _ kw_191) (fun _ h9 => h9) rfl (by decide +kernel) rfl rfl (Nat.le_of_ble_eq_true rfl) d_Plan_leaveAllAlone_2 (fun H locs hP hD hS => ?_)
  obtain ⟨π1, eπ1⟩ : ∃ z, z = s2 π 3 0 0 := ⟨_, rfl⟩
  replace hP : va_P D CL (wPlan k gP π1 (gR 0) ++ (wRem k gR ρ ++ (wTariff k gT τ f ++ (wBasket k gB β)))) H := by rw [eπ1]; exact hP
  replace hD : va_D A (wPlan k gP π1 (gR 0) ++ (wRem k gR ρ ++ (wTariff k gT τ f ++ (wBasket k gB β)))) := by rw [eπ1]; exact hD
  replace h := h π1 eπ1
  refine lv_iconst (v := 0) hx hb d_Plan_leaveAllAlone_5 (by decide) ?_
  refine lv_istore_n (lv' := [(3, .int 0), (0, .ref (gP 0)), (1, .ref (gT 0)), (2, .ref (gB 0))]) hx hb d_Plan_leaveAllAlone_6 rfl hl (by decide) rfl (fun ls hl => ?_)
  exact t_Plan_leaveAllAlone_7 C N ρ τ β post   N 0 π1 _ _ _ hP hD hS (lv_sub hl [1, 2, 3, 0] rfl) h
set_option maxHeartbeats 4000000 in
set_option maxRecDepth 100000 in
theorem t_Plan_paidIn_4 {p : Program} {l : Launch} {e : Env} {s : State} {m : MethodId} {args : Array Value} {below : List Frame} {meth : Method} {c : Code} {A : Nat → Prop} {D : va_G} {k : Nat → ClassId} {gP : Nat → Nat} {gR : Nat → Nat} {gB : Nat → Nat} (C : Cx p s m args meth c D k "PromotionTill$Plan" b_Plan_paidIn 4 (some .int) A) (N : Nat) (π : St) (ρ : Nat → Int64) (β : St) (post : Int32 → (Unit) → Prop) :
    ∀ (n : Nat) (x2 : Int32) (x3 : Int32) (H : Heap) (locs : List Loc) (ls : Array Slot), va_P D CL (wPlan k gP π (gR 0) ++ (wRem k gR ρ ++ (wBasket k gB β))) H → va_D A (wPlan k gP π (gR 0) ++ (wRem k gR ρ ++ (wBasket k gB β))) → va_S A s.heap H locs → lv_has ls 4 [(0, .ref (gP 0)), (1, .ref (gB 0)), (2, .int x2), (3, .int x3)] → wp_Plan_paidIn_4 N π ρ β post n x2 x3 → W p l e rm_Plan_paidIn s m args below meth c H locs 0 0 (MQ below (va_Qi post (fun (u : Unit) t => va_P D CL (wPlan k gP π (gR 0) ++ (wRem k gR ρ ++ (wBasket k gB β))) t.heap ∧ va_D A (wPlan k gP π (gR 0) ++ (wRem k gR ρ ++ (wBasket k gB β)))) A) args s rm_Plan_paidIn.cells rm_Plan_paidIn.slots A) (F0 m 4 ls []) := by
  obtain ⟨hx, hb, hr, hlk, hml, hown, hts, hK, hA⟩ := id C
  intro n
  induction n with
  | zero =>
    intro x2 x3 H locs ls hP hD hS hl h
    exact absurd h (by simp [wp_Plan_paidIn_4])
  | succ n ih =>
    intro x2 x3 H locs ls hP hD hS hl h
    rw [wp_Plan_paidIn_4] at h
    refine lv_iload_n hx hb d_Plan_paidIn_4 rfl (lv_at hl 3 rfl) ?_
    refine lv_aload_n hx hb d_Plan_paidIn_5 rfl (lv_at hl 1 rfl) ?_
    refine va_get (D := D) (ci := 0) (v := .int (β 1 0)) (C := R_Basket) (T := F_Basket) (N := 2) hx hb hts in_Basket hown hK hP 6 rfl rfl 1 (by decide) (hts _ kw_107) (fun _ h9 => h9) rfl d_Plan_paidIn_6 ?_
    refine lv_icmp_ge (tgt := 27) hx hb d_Plan_paidIn_9 (by decide) (fun c1 => ?_) (fun c1 => ?_)
    · replace h := h.1 c1
      refine lv_iload_n hx hb d_Plan_paidIn_27 rfl (lv_at hl 2 rfl) ?_
      exact ret_i (u := ()) (wf := (fun u : Unit => wPlan k gP π (gR 0) ++ (wRem k gR ρ ++ (wBasket k gB β)))) C hP hD hS (Nat.zero_le _) (Nat.zero_le _) h d_Plan_paidIn_28
    · replace h := h.2 c1
      refine lv_iload_n hx hb d_Plan_paidIn_12 rfl (lv_at hl 2 rfl) ?_
      refine lv_aload_n hx hb d_Plan_paidIn_13 rfl (lv_at hl 0 rfl) ?_
      refine va_get (D := D) (ci := 2) (v := .ref (gP 3)) (C := R_Plan) (T := F_Plan) (N := 6) hx hb hts in_Plan hown hK hP 0 rfl rfl 2 (by decide) (hts _ kw_188) (fun _ h9 => h9) rfl d_Plan_paidIn_14 ?_
      refine lv_iload_n hx hb d_Plan_paidIn_17 rfl (lv_at hl 3 rfl) ?_
      obtain ⟨hi2, h⟩ := h
      refine va_iald hx hb hK hP 3 0 rfl rfl hi2 d_Plan_paidIn_18 ?_
      refine lv_iadd hx hb d_Plan_paidIn_19 ?_
      refine lv_istore_n (lv' := [(2, .int (x2 + (π 2 (Int32.toNatClampNeg x3)))), (0, .ref (gP 0)), (1, .ref (gB 0)), (3, .int x3)]) hx hb d_Plan_paidIn_20 rfl hl (by decide) rfl (fun ls hl => ?_)
      refine lv_iinc (v := x3 + 1) (lv' := [(3, .int (x3 + 1)), (2, .int (x2 + (π 2 (Int32.toNatClampNeg x3)))), (0, .ref (gP 0)), (1, .ref (gB 0))]) hx hb d_Plan_paidIn_21 hl (k := 3) rfl rfl (by decide) rfl (fun ls hl => ?_)
      refine lv_goto (tgt := 4) hx hb d_Plan_paidIn_24 (by decide) ?_
      exact ih (x2 + (π 2 (Int32.toNatClampNeg x3))) (x3 + 1) _ _ _ hP hD hS (lv_sub hl [2, 3, 1, 0] rfl) h
set_option maxHeartbeats 4000000 in
set_option maxRecDepth 100000 in
theorem m_Plan_paidIn {l : Launch} {D : va_G} {k : Nat → ClassId} (N : Nat) (gP : Nat → Nat) (gR : Nat → Nat) (gB : Nat → Nat) (π : St) (ρ : Nat → Int64) (β : St) (post : Int32 → (Unit) → Prop) (h : wp_Plan_paidIn N  π ρ β  post) : Ci l D k y_Plan_paidIn b_Plan_paidIn 4 .int rm_Plan_paidIn [.ref (gP 0), .ref (gB 0)] (wPlan k gP π (gR 0) ++ (wRem k gR ρ ++ (wBasket k gB β))) (fun u : Unit => wPlan k gP π (gR 0) ++ (wRem k gR ρ ++ (wBasket k gB β))) post := by
  refine Ci.of (by decide) (Nat.le_of_ble_eq_true rfl) ?_
  intro p e s m below meth c A H locs ls C hP hD hS hl
  obtain ⟨hx, hb, hr, hlk, hml, hown, hts, hK, hA⟩ := id C
  replace hl : lv_has ls 4 [(0, .ref (gP 0)), (1, .ref (gB 0))] := hl
  unfold wp_Plan_paidIn at h
  refine lv_iconst (v := 0) hx hb d_Plan_paidIn_0 (by decide) ?_
  refine lv_istore_n (lv' := [(2, .int 0), (0, .ref (gP 0)), (1, .ref (gB 0))]) hx hb d_Plan_paidIn_1 rfl hl (by decide) rfl (fun ls hl => ?_)
  refine lv_iconst (v := 0) hx hb d_Plan_paidIn_2 (by decide) ?_
  refine lv_istore_n (lv' := [(3, .int 0), (2, .int 0), (0, .ref (gP 0)), (1, .ref (gB 0))]) hx hb d_Plan_paidIn_3 rfl hl (by decide) rfl (fun ls hl => ?_)
  exact t_Plan_paidIn_4 C N π ρ β post   N 0 0 _ _ _ hP hD hS (lv_sub hl [2, 3, 1, 0] rfl) h
set_option maxHeartbeats 4000000 in
set_option maxRecDepth 100000 in
theorem t_Plan_takeFirst_38 {p : Program} {l : Launch} {e : Env} {s : State} {m : MethodId} {args : Array Value} {below : List Frame} {meth : Method} {c : Code} {A : Nat → Prop} {D : va_G} {k : Nat → ClassId} {gP : Nat → Nat} {gR : Nat → Nat} {gB : Nat → Nat} (C : Cx p s m args meth c D k "PromotionTill$Plan" b_Plan_takeFirst 4 (some .int) A) (N : Nat) (ρ : Nat → Int64) (β : St) (post : Int32 → ((St)) → Prop) (K_2 : Int32 → Int32 → (St) → Prop) (hK_2 : ∀ (x2 : Int32) (x3 : Int32) (π : (St)) (H : Heap) (locs : List Loc) (ls : Array Slot), va_P D CL (wPlan k gP π (gR 0) ++ (wRem k gR ρ ++ (wBasket k gB β))) H → va_D A (wPlan k gP π (gR 0) ++ (wRem k gR ρ ++ (wBasket k gB β))) → va_S A s.heap H locs → lv_has ls 4 [(0, .ref (gP 0)), (1, .ref (gB 0)), (2, .int x2), (3, .int x3)] → K_2 x2 x3 π → W p l e rm_Plan_takeFirst s m args below meth c H locs 0 0 (MQ below (va_Qi post (fun (u : (St)) t => va_P D CL (wPlan k gP u (gR 0) ++ (wRem k gR ρ ++ (wBasket k gB β))) t.heap ∧ va_D A (wPlan k gP u (gR 0) ++ (wRem k gR ρ ++ (wBasket k gB β)))) A) args s rm_Plan_takeFirst.cells rm_Plan_takeFirst.slots A) (F0 m 2 ls [])) :
    ∀ (x2 : Int32) (x3 : Int32) (π : (St)) (H : Heap) (locs : List Loc) (ls : Array Slot), va_P D CL (wPlan k gP π (gR 0) ++ (wRem k gR ρ ++ (wBasket k gB β))) H → va_D A (wPlan k gP π (gR 0) ++ (wRem k gR ρ ++ (wBasket k gB β))) → va_S A s.heap H locs → lv_has ls 4 [(0, .ref (gP 0)), (1, .ref (gB 0)), (2, .int x2), (3, .int x3)] → wp_Plan_takeFirst_38 N ρ β post K_2 x2 x3 π → W p l e rm_Plan_takeFirst s m args below meth c H locs 0 0 (MQ below (va_Qi post (fun (u : (St)) t => va_P D CL (wPlan k gP u (gR 0) ++ (wRem k gR ρ ++ (wBasket k gB β))) t.heap ∧ va_D A (wPlan k gP u (gR 0) ++ (wRem k gR ρ ++ (wBasket k gB β)))) A) args s rm_Plan_takeFirst.cells rm_Plan_takeFirst.slots A) (F0 m 38 ls []) := by
  obtain ⟨hx, hb, hr, hlk, hml, hown, hts, hK, hA⟩ := id C
  intro x2 x3 π H locs ls hP hD hS hl h
  unfold wp_Plan_takeFirst_38 at h
  refine lv_iinc (v := x3 + 1) (lv' := [(3, .int (x3 + 1)), (0, .ref (gP 0)), (1, .ref (gB 0)), (2, .int x2)]) hx hb d_Plan_takeFirst_38 hl (k := 3) rfl rfl (by decide) rfl (fun ls hl => ?_)
  refine lv_goto (tgt := 2) hx hb d_Plan_takeFirst_41 (by decide) ?_
  exact hK_2 x2 (x3 + 1) π _ _ _ hP hD hS (lv_sub hl [1, 2, 3, 0] rfl) h
set_option maxHeartbeats 4000000 in
set_option maxRecDepth 100000 in
theorem t_Plan_takeFirst_2 {p : Program} {l : Launch} {e : Env} {s : State} {m : MethodId} {args : Array Value} {below : List Frame} {meth : Method} {c : Code} {A : Nat → Prop} {D : va_G} {k : Nat → ClassId} {gP : Nat → Nat} {gR : Nat → Nat} {gB : Nat → Nat} (C : Cx p s m args meth c D k "PromotionTill$Plan" b_Plan_takeFirst 4 (some .int) A) (N : Nat) (ρ : Nat → Int64) (β : St) (post : Int32 → ((St)) → Prop) :
    ∀ (n : Nat) (x2 : Int32) (x3 : Int32) (π : (St)) (H : Heap) (locs : List Loc) (ls : Array Slot), va_P D CL (wPlan k gP π (gR 0) ++ (wRem k gR ρ ++ (wBasket k gB β))) H → va_D A (wPlan k gP π (gR 0) ++ (wRem k gR ρ ++ (wBasket k gB β))) → va_S A s.heap H locs → lv_has ls 4 [(0, .ref (gP 0)), (1, .ref (gB 0)), (2, .int x2), (3, .int x3)] → wp_Plan_takeFirst_2 N ρ β post n x2 x3 π → W p l e rm_Plan_takeFirst s m args below meth c H locs 0 0 (MQ below (va_Qi post (fun (u : (St)) t => va_P D CL (wPlan k gP u (gR 0) ++ (wRem k gR ρ ++ (wBasket k gB β))) t.heap ∧ va_D A (wPlan k gP u (gR 0) ++ (wRem k gR ρ ++ (wBasket k gB β)))) A) args s rm_Plan_takeFirst.cells rm_Plan_takeFirst.slots A) (F0 m 2 ls []) := by
  obtain ⟨hx, hb, hr, hlk, hml, hown, hts, hK, hA⟩ := id C
  intro n
  induction n with
  | zero =>
    intro x2 x3 π H locs ls hP hD hS hl h
    exact absurd h (by simp [wp_Plan_takeFirst_2])
  | succ n ih =>
    intro x2 x3 π H locs ls hP hD hS hl h
    rw [wp_Plan_takeFirst_2] at h
    refine lv_iload_n hx hb d_Plan_takeFirst_2 rfl (lv_at hl 3 rfl) ?_
    refine lv_aload_n hx hb d_Plan_takeFirst_3 rfl (lv_at hl 1 rfl) ?_
    refine va_get (D := D) (ci := 0) (v := .int (β 1 0)) (C := R_Basket) (T := F_Basket) (N := 2) hx hb hts in_Basket hown hK hP 6 rfl rfl 1 (by decide) (hts _ kw_107) (fun _ h9 => h9) rfl d_Plan_takeFirst_4 ?_
    refine lv_icmp_ge (tgt := 44) hx hb d_Plan_takeFirst_7 (by decide) (fun c1 => ?_) (fun c1 => ?_)
    · replace h := h.1 c1
      refine lv_iconst (v := (-1)) hx hb d_Plan_takeFirst_44 (by decide) ?_
      exact ret_i (u := π) (wf := (fun u : (St) => wPlan k gP u (gR 0) ++ (wRem k gR ρ ++ (wBasket k gB β)))) C hP hD hS (Nat.zero_le _) (Nat.zero_le _) h d_Plan_takeFirst_45
    · replace h := h.2 c1
      refine lv_aload_n hx hb d_Plan_takeFirst_10 rfl (lv_at hl 0 rfl) ?_
      refine va_get (D := D) (ci := 2) (v := .ref (gP 4)) (C := R_Plan) (T := F_Plan) (N := 6) hx hb hts in_Plan hown hK hP 0 rfl rfl 4 (by decide) (hts _ kw_193) (fun _ h9 => h9) rfl d_Plan_takeFirst_11 ?_
      refine lv_iload_n hx hb d_Plan_takeFirst_14 rfl (lv_at hl 3 rfl) ?_
      obtain ⟨hi2, h⟩ := h
      refine va_zald hx hb hK hP 4 1 rfl rfl hi2 d_Plan_takeFirst_15 ?_
      refine lv_if_ne (tgt := 38) hx hb d_Plan_takeFirst_16 (by decide) (fun c3 => ?_) (fun c3 => ?_)
      · replace h := h.1 c3
        exact t_Plan_takeFirst_38 C N ρ β post (wp_Plan_takeFirst_2 N ρ β post n) ih x2 x3 π _ _ _ hP hD hS (lv_sub hl [0, 1, 2, 3] rfl) h
      · replace h := h.2 c3
        refine lv_aload_n hx hb d_Plan_takeFirst_19 rfl (lv_at hl 1 rfl) ?_
        refine va_get (D := D) (ci := 0) (v := .ref (gB 1)) (C := R_Basket) (T := F_Basket) (N := 2) hx hb hts in_Basket hown hK hP 6 rfl rfl 0 (by decide) (hts _ kw_103) (fun _ h9 => h9) rfl d_Plan_takeFirst_20 ?_
        refine lv_iload_n hx hb d_Plan_takeFirst_23 rfl (lv_at hl 3 rfl) ?_
        obtain ⟨hi4, h⟩ := h
        refine va_iald hx hb hK hP 7 0 rfl rfl hi4 d_Plan_takeFirst_24 ?_
        refine lv_iload_n hx hb d_Plan_takeFirst_25 rfl (lv_at hl 2 rfl) ?_
        refine lv_icmp_ne (tgt := 38) hx hb d_Plan_takeFirst_26 (by decide) (fun c5 => ?_) (fun c5 => ?_)
        · replace h := h.1 c5
          exact t_Plan_takeFirst_38 C N ρ β post (wp_Plan_takeFirst_2 N ρ β post n) ih x2 x3 π _ _ _ hP hD hS (lv_sub hl [0, 1, 2, 3] rfl) h
        · replace h := h.2 c5
          refine lv_aload_n hx hb d_Plan_takeFirst_29 rfl (lv_at hl 0 rfl) ?_
          refine va_get (D := D) (ci := 2) (v := .ref (gP 4)) (C := R_Plan) (T := F_Plan) (N := 6) hx hb hts in_Plan hown hK hP 0 rfl rfl 4 (by decide) (hts _ kw_193) (fun _ h9 => h9) rfl d_Plan_takeFirst_30 ?_
          refine lv_iload_n hx hb d_Plan_takeFirst_33 rfl (lv_at hl 3 rfl) ?_
          refine lv_iconst (v := 1) hx hb d_Plan_takeFirst_34 (by decide) ?_
          obtain ⟨hi6, h⟩ := h
          refine va_zast hx hb hK hP hD hS 4 1 rfl rfl hi6 d_Plan_takeFirst_35 (fun H locs hP hD hS => ?_)
          obtain ⟨π7, eπ7⟩ : ∃ z, z = s2 π 4 (Int32.toNatClampNeg x3) (vp_nar .boolean 1) := ⟨_, rfl⟩
          replace hP : va_P D CL (wPlan k gP π7 (gR 0) ++ (wRem k gR ρ ++ (wBasket k gB β))) H := by rw [eπ7]; exact hP
          replace hD : va_D A (wPlan k gP π7 (gR 0) ++ (wRem k gR ρ ++ (wBasket k gB β))) := by rw [eπ7]; exact hD
          replace h := h π7 eπ7
          refine lv_iload_n hx hb d_Plan_takeFirst_36 rfl (lv_at hl 3 rfl) ?_
          exact ret_i (u := π7) (wf := (fun u : (St) => wPlan k gP u (gR 0) ++ (wRem k gR ρ ++ (wBasket k gB β)))) C hP hD hS (Nat.zero_le _) (Nat.zero_le _) h d_Plan_takeFirst_37
set_option maxHeartbeats 4000000 in
set_option maxRecDepth 100000 in
theorem m_Plan_takeFirst {l : Launch} {D : va_G} {k : Nat → ClassId} (N : Nat) (gP : Nat → Nat) (gR : Nat → Nat) (gB : Nat → Nat) (π : St) (ρ : Nat → Int64) (β : St) (x2 : Int32) (post : Int32 → ((St)) → Prop) (h : wp_Plan_takeFirst N  π ρ β x2 post) : Ci l D k y_Plan_takeFirst b_Plan_takeFirst 4 .int rm_Plan_takeFirst [.ref (gP 0), .ref (gB 0), .int x2] (wPlan k gP π (gR 0) ++ (wRem k gR ρ ++ (wBasket k gB β))) (fun u : (St) => wPlan k gP u (gR 0) ++ (wRem k gR ρ ++ (wBasket k gB β))) post := by
  refine Ci.of (by decide) (Nat.le_of_ble_eq_true rfl) ?_
  intro p e s m below meth c A H locs ls C hP hD hS hl
  obtain ⟨hx, hb, hr, hlk, hml, hown, hts, hK, hA⟩ := id C
  replace hl : lv_has ls 4 [(0, .ref (gP 0)), (1, .ref (gB 0)), (2, .int x2)] := hl
  unfold wp_Plan_takeFirst at h
  refine lv_iconst (v := 0) hx hb d_Plan_takeFirst_0 (by decide) ?_
  refine lv_istore_n (lv' := [(3, .int 0), (0, .ref (gP 0)), (1, .ref (gB 0)), (2, .int x2)]) hx hb d_Plan_takeFirst_1 rfl hl (by decide) rfl (fun ls hl => ?_)
  exact t_Plan_takeFirst_2 C N ρ β post   N x2 0 π _ _ _ hP hD hS (lv_sub hl [1, 2, 3, 0] rfl) h
set_option maxHeartbeats 4000000 in
set_option maxRecDepth 100000 in
theorem m_Plan_takeAlone {l : Launch} {D : va_G} {k : Nat → ClassId} (N : Nat) (gP : Nat → Nat) (gR : Nat → Nat) (gB : Nat → Nat) (π : St) (ρ : Nat → Int64) (β : St) (x2 : Int32) (post : ((St)) → Prop) (h : wp_Plan_takeAlone N  π ρ β x2 post) : Cv l D k y_Plan_takeAlone b_Plan_takeAlone 3 rm_Plan_takeAlone [.ref (gP 0), .ref (gB 0), .int x2] (wPlan k gP π (gR 0) ++ (wRem k gR ρ ++ (wBasket k gB β))) (fun u : (St) => wPlan k gP u (gR 0) ++ (wRem k gR ρ ++ (wBasket k gB β))) post := by
  refine Cv.of (by decide) (Nat.le_of_ble_eq_true rfl) ?_
  intro p e s m below meth c A H locs ls C hP hD hS hl
  obtain ⟨hx, hb, hr, hlk, hml, hown, hts, hK, hA⟩ := id C
  replace hl : lv_has ls 3 [(0, .ref (gP 0)), (1, .ref (gB 0)), (2, .int x2)] := hl
  unfold wp_Plan_takeAlone at h
  refine lv_aload_n hx hb d_Plan_takeAlone_0 rfl (lv_at hl 0 rfl) ?_
  refine lv_aload_n hx hb d_Plan_takeAlone_1 rfl (lv_at hl 1 rfl) ?_
  refine lv_iload_n hx hb d_Plan_takeAlone_2 rfl (lv_at hl 2 rfl) ?_
  refine same_i C hP hD hS (runV (As := [.ref (gB 0), .int x2]) (rest := []) C hP hD (m_Plan_takeFirst N gP gR gB π ρ β x2  _ h H.size) kw_626 kw_628 kp_17 kw_8 kw_629 hd_Plan_takeFirst ⟨Nat.le_of_ble_eq_true rfl, Nat.le_of_ble_eq_true rfl⟩ ⟨Nat.le_of_ble_eq_true rfl, Nat.le_of_ble_eq_true rfl⟩ 0 rfl rfl rfl rfl hl.1 (Nat.le_of_ble_eq_true rfl) d_Plan_takeAlone_3) (fun r2 u1 H locs h hP hD hS => ?_)
  replace hP : va_P D CL (wPlan k gP u1 (gR 0) ++ (wRem k gR ρ ++ (wBasket k gB β))) H := hP
  replace hD : va_D A (wPlan k gP u1 (gR 0) ++ (wRem k gR ρ ++ (wBasket k gB β))) := hD
  try dsimp only at h
  refine lv_pop hx hb d_Plan_takeAlone_6 rfl ?_
  exact ret_v (u := u1) (wf := (fun u : (St) => wPlan k gP u (gR 0) ++ (wRem k gR ρ ++ (wBasket k gB β)))) C hP hD hS (Nat.zero_le _) (Nat.zero_le _) h d_Plan_takeAlone_7
set_option maxHeartbeats 4000000 in
set_option maxRecDepth 100000 in
theorem m_Plan_takeIntoUse {l : Launch} {D : va_G} {k : Nat → ClassId} (N : Nat) (gP : Nat → Nat) (gR : Nat → Nat) (gB : Nat → Nat) (π : St) (ρ : Nat → Int64) (β : St) (x2 : Int32) (x3 : Int32) (post : ((St)) → Prop) (h : wp_Plan_takeIntoUse N  π ρ β x2 x3 post) : Cv l D k y_Plan_takeIntoUse b_Plan_takeIntoUse 5 rm_Plan_takeIntoUse [.ref (gP 0), .ref (gB 0), .int x2, .int x3] (wPlan k gP π (gR 0) ++ (wRem k gR ρ ++ (wBasket k gB β))) (fun u : (St) => wPlan k gP u (gR 0) ++ (wRem k gR ρ ++ (wBasket k gB β))) post := by
  refine Cv.of (by decide) (Nat.le_of_ble_eq_true rfl) ?_
  intro p e s m below meth c A H locs ls C hP hD hS hl
  obtain ⟨hx, hb, hr, hlk, hml, hown, hts, hK, hA⟩ := id C
  replace hl : lv_has ls 5 [(0, .ref (gP 0)), (1, .ref (gB 0)), (2, .int x2), (3, .int x3)] := hl
  unfold wp_Plan_takeIntoUse at h
  refine lv_aload_n hx hb d_Plan_takeIntoUse_0 rfl (lv_at hl 0 rfl) ?_
  refine lv_aload_n hx hb d_Plan_takeIntoUse_1 rfl (lv_at hl 1 rfl) ?_
  refine lv_iload_n hx hb d_Plan_takeIntoUse_2 rfl (lv_at hl 2 rfl) ?_
  refine same_i C hP hD hS (runV (As := [.ref (gB 0), .int x2]) (rest := []) C hP hD (m_Plan_takeFirst N gP gR gB π ρ β x2  _ h H.size) kw_626 kw_628 kp_17 kw_8 kw_629 hd_Plan_takeFirst ⟨Nat.le_of_ble_eq_true rfl, Nat.le_of_ble_eq_true rfl⟩ ⟨Nat.le_of_ble_eq_true rfl, Nat.le_of_ble_eq_true rfl⟩ 0 rfl rfl rfl rfl hl.1 (Nat.le_of_ble_eq_true rfl) d_Plan_takeIntoUse_3) (fun r2 u1 H locs h hP hD hS => ?_)
  replace hP : va_P D CL (wPlan k gP u1 (gR 0) ++ (wRem k gR ρ ++ (wBasket k gB β))) H := hP
  replace hD : va_D A (wPlan k gP u1 (gR 0) ++ (wRem k gR ρ ++ (wBasket k gB β))) := hD
  try dsimp only at h
  refine lv_istore (lv' := [(4, .int r2), (0, .ref (gP 0)), (1, .ref (gB 0)), (2, .int x2), (3, .int x3)]) hx hb d_Plan_takeIntoUse_6 hl (by decide) rfl (fun ls hl => ?_)
  refine lv_iload hx hb d_Plan_takeIntoUse_8 (lv_at hl 0 rfl) ?_
  refine lv_iconst (v := (-1)) hx hb d_Plan_takeIntoUse_10 (by decide) ?_
  refine lv_icmp_eq (tgt := 33) hx hb d_Plan_takeIntoUse_11 (by decide) (fun c3 => ?_) (fun c3 => ?_)
  · replace h := h.1 c3
    exact ret_v (u := u1) (wf := (fun u : (St) => wPlan k gP u (gR 0) ++ (wRem k gR ρ ++ (wBasket k gB β)))) C hP hD hS (Nat.zero_le _) (Nat.zero_le _) h d_Plan_takeIntoUse_33
  · replace h := h.2 c3
    refine lv_aload_n hx hb d_Plan_takeIntoUse_14 rfl (lv_at hl 1 rfl) ?_
    refine va_get (D := D) (ci := 2) (v := .ref (gP 1)) (C := R_Plan) (T := F_Plan) (N := 6) hx hb hts in_Plan hown hK hP 0 rfl rfl 0 (by decide) (hts _ kw_183) (fun _ h9 => h9) rfl d_Plan_takeIntoUse_15 ?_
    refine lv_iload hx hb d_Plan_takeIntoUse_18 (lv_at hl 0 rfl) ?_
    refine lv_iload_n hx hb d_Plan_takeIntoUse_20 rfl (lv_at hl 4 rfl) ?_
    obtain ⟨hi4, h⟩ := h
    refine va_iast hx hb hK hP hD hS 1 0 rfl rfl hi4 d_Plan_takeIntoUse_21 (fun H locs hP hD hS => ?_)
    obtain ⟨π5, eπ5⟩ : ∃ z, z = s2 u1 0 (Int32.toNatClampNeg r2) x3 := ⟨_, rfl⟩
    replace hP : va_P D CL (wPlan k gP π5 (gR 0) ++ (wRem k gR ρ ++ (wBasket k gB β))) H := by rw [eπ5]; exact hP
    replace hD : va_D A (wPlan k gP π5 (gR 0) ++ (wRem k gR ρ ++ (wBasket k gB β))) := by rw [eπ5]; exact hD
    replace h := h π5 eπ5
    refine lv_aload_n hx hb d_Plan_takeIntoUse_22 rfl (lv_at hl 1 rfl) ?_
    refine va_get (D := D) (ci := 2) (v := .ref (gP 2)) (C := R_Plan) (T := F_Plan) (N := 6) hx hb hts in_Plan hown hK hP 0 rfl rfl 1 (by decide) (hts _ kw_186) (fun _ h9 => h9) rfl d_Plan_takeIntoUse_23 ?_
    refine lv_iload hx hb d_Plan_takeIntoUse_26 (lv_at hl 0 rfl) ?_
    refine lv_aload_n hx hb d_Plan_takeIntoUse_28 rfl (lv_at hl 1 rfl) ?_
    refine va_get (D := D) (ci := 2) (v := .int (π5 3 0)) (C := R_Plan) (T := F_Plan) (N := 6) hx hb hts in_Plan hown hK hP 0 rfl rfl 3 (by decide) (hts _ kw_191) (fun _ h9 => h9) rfl d_Plan_takeIntoUse_29 ?_
    obtain ⟨hi6, h⟩ := h
    refine va_iast hx hb hK hP hD hS 2 0 rfl rfl hi6 d_Plan_takeIntoUse_32 (fun H locs hP hD hS => ?_)
    obtain ⟨π7, eπ7⟩ : ∃ z, z = s2 π5 1 (Int32.toNatClampNeg r2) (π5 3 0) := ⟨_, rfl⟩
    replace hP : va_P D CL (wPlan k gP π7 (gR 0) ++ (wRem k gR ρ ++ (wBasket k gB β))) H := by rw [eπ7]; exact hP
    replace hD : va_D A (wPlan k gP π7 (gR 0) ++ (wRem k gR ρ ++ (wBasket k gB β))) := by rw [eπ7]; exact hD
    replace h := h π7 eπ7
    exact ret_v (u := π7) (wf := (fun u : (St) => wPlan k gP u (gR 0) ++ (wRem k gR ρ ++ (wBasket k gB β)))) C hP hD hS (Nat.zero_le _) (Nat.zero_le _) h d_Plan_takeIntoUse_33
set_option maxHeartbeats 4000000 in
set_option maxRecDepth 100000 in
theorem t_Plan_spreadWholeShares_95 {p : Program} {l : Launch} {e : Env} {s : State} {m : MethodId} {args : Array Value} {below : List Frame} {meth : Method} {c : Code} {A : Nat → Prop} {D : va_G} {k : Nat → ClassId} {gP : Nat → Nat} {gR : Nat → Nat} {gB : Nat → Nat} (C : Cx p s m args meth c D k "PromotionTill$Plan" b_Plan_spreadWholeShares 9 (some .int) A) (N : Nat) (β : St) (post : Int32 → ((St) × (Nat → Int64)) → Prop) (K_6 : Int32 → Int32 → Int32 → Int32 → (St) → (Nat → Int64) → Prop) (hK_6 : ∀ (x2 : Int32) (x3 : Int32) (x4 : Int32) (x5 : Int32) (π : (St)) (ρ : (Nat → Int64)) (H : Heap) (locs : List Loc) (ls : Array Slot), va_P D CL (wPlan k gP π (gR 0) ++ (wRem k gR ρ ++ (wBasket k gB β))) H → va_D A (wPlan k gP π (gR 0) ++ (wRem k gR ρ ++ (wBasket k gB β))) → va_S A s.heap H locs → lv_has ls 9 [(0, .ref (gP 0)), (1, .ref (gB 0)), (2, .int x2), (3, .int x3), (4, .int x4), (5, .int x5)] → K_6 x2 x3 x4 x5 π ρ → W p l e rm_Plan_spreadWholeShares s m args below meth c H locs 0 0 (MQ below (va_Qi post (fun (u : (St) × (Nat → Int64)) t => va_P D CL (wPlan k gP u.1 (gR 0) ++ (wRem k gR u.2 ++ (wBasket k gB β))) t.heap ∧ va_D A (wPlan k gP u.1 (gR 0) ++ (wRem k gR u.2 ++ (wBasket k gB β)))) A) args s rm_Plan_spreadWholeShares.cells rm_Plan_spreadWholeShares.slots A) (F0 m 6 ls [])) :
    ∀ (x2 : Int32) (x3 : Int32) (x4 : Int32) (x5 : Int32) (π : (St)) (ρ : (Nat → Int64)) (H : Heap) (locs : List Loc) (ls : Array Slot), va_P D CL (wPlan k gP π (gR 0) ++ (wRem k gR ρ ++ (wBasket k gB β))) H → va_D A (wPlan k gP π (gR 0) ++ (wRem k gR ρ ++ (wBasket k gB β))) → va_S A s.heap H locs → lv_has ls 9 [(0, .ref (gP 0)), (1, .ref (gB 0)), (2, .int x2), (3, .int x3), (4, .int x4), (5, .int x5)] → wp_Plan_spreadWholeShares_95 N β post K_6 x2 x3 x4 x5 π ρ → W p l e rm_Plan_spreadWholeShares s m args below meth c H locs 0 0 (MQ below (va_Qi post (fun (u : (St) × (Nat → Int64)) t => va_P D CL (wPlan k gP u.1 (gR 0) ++ (wRem k gR u.2 ++ (wBasket k gB β))) t.heap ∧ va_D A (wPlan k gP u.1 (gR 0) ++ (wRem k gR u.2 ++ (wBasket k gB β)))) A) args s rm_Plan_spreadWholeShares.cells rm_Plan_spreadWholeShares.slots A) (F0 m 95 ls []) := by
  obtain ⟨hx, hb, hr, hlk, hml, hown, hts, hK, hA⟩ := id C
  intro x2 x3 x4 x5 π ρ H locs ls hP hD hS hl h
  unfold wp_Plan_spreadWholeShares_95 at h
  refine lv_iinc (v := x5 + 1) (lv' := [(5, .int (x5 + 1)), (0, .ref (gP 0)), (1, .ref (gB 0)), (2, .int x2), (3, .int x3), (4, .int x4)]) hx hb d_Plan_spreadWholeShares_95 hl (k := 5) rfl rfl (by decide) rfl (fun ls hl => ?_)
  refine lv_goto (tgt := 6) hx hb d_Plan_spreadWholeShares_98 (by decide) ?_
  exact hK_6 x2 x3 x4 (x5 + 1) π ρ _ _ _ hP hD hS (lv_sub hl [1, 2, 3, 4, 5, 0] rfl) h
set_option maxHeartbeats 4000000 in
set_option maxRecDepth 100000 in
theorem t_Plan_spreadWholeShares_6 {p : Program} {l : Launch} {e : Env} {s : State} {m : MethodId} {args : Array Value} {below : List Frame} {meth : Method} {c : Code} {A : Nat → Prop} {D : va_G} {k : Nat → ClassId} {gP : Nat → Nat} {gR : Nat → Nat} {gB : Nat → Nat} (C : Cx p s m args meth c D k "PromotionTill$Plan" b_Plan_spreadWholeShares 9 (some .int) A) (N : Nat) (β : St) (post : Int32 → ((St) × (Nat → Int64)) → Prop) :
    ∀ (n : Nat) (x2 : Int32) (x3 : Int32) (x4 : Int32) (x5 : Int32) (π : (St)) (ρ : (Nat → Int64)) (H : Heap) (locs : List Loc) (ls : Array Slot), va_P D CL (wPlan k gP π (gR 0) ++ (wRem k gR ρ ++ (wBasket k gB β))) H → va_D A (wPlan k gP π (gR 0) ++ (wRem k gR ρ ++ (wBasket k gB β))) → va_S A s.heap H locs → lv_has ls 9 [(0, .ref (gP 0)), (1, .ref (gB 0)), (2, .int x2), (3, .int x3), (4, .int x4), (5, .int x5)] → wp_Plan_spreadWholeShares_6 N β post n x2 x3 x4 x5 π ρ → W p l e rm_Plan_spreadWholeShares s m args below meth c H locs 0 0 (MQ below (va_Qi post (fun (u : (St) × (Nat → Int64)) t => va_P D CL (wPlan k gP u.1 (gR 0) ++ (wRem k gR u.2 ++ (wBasket k gB β))) t.heap ∧ va_D A (wPlan k gP u.1 (gR 0) ++ (wRem k gR u.2 ++ (wBasket k gB β)))) A) args s rm_Plan_spreadWholeShares.cells rm_Plan_spreadWholeShares.slots A) (F0 m 6 ls []) := by
  obtain ⟨hx, hb, hr, hlk, hml, hown, hts, hK, hA⟩ := id C
  intro n
  induction n with
  | zero =>
    intro x2 x3 x4 x5 π ρ H locs ls hP hD hS hl h
    exact absurd h (by simp [wp_Plan_spreadWholeShares_6])
  | succ n ih =>
    intro x2 x3 x4 x5 π ρ H locs ls hP hD hS hl h
    rw [wp_Plan_spreadWholeShares_6] at h
    refine lv_iload hx hb d_Plan_spreadWholeShares_6 (lv_at hl 5 rfl) ?_
    refine lv_aload_n hx hb d_Plan_spreadWholeShares_8 rfl (lv_at hl 1 rfl) ?_
    refine va_get (D := D) (ci := 0) (v := .int (β 1 0)) (C := R_Basket) (T := F_Basket) (N := 2) hx hb hts in_Basket hown hK hP 6 rfl rfl 1 (by decide) (hts _ kw_107) (fun _ h9 => h9) rfl d_Plan_spreadWholeShares_9 ?_
    refine lv_icmp_ge (tgt := 101) hx hb d_Plan_spreadWholeShares_12 (by decide) (fun c1 => ?_) (fun c1 => ?_)
    · replace h := h.1 c1
      refine lv_iload hx hb d_Plan_spreadWholeShares_101 (lv_at hl 4 rfl) ?_
      exact ret_i (u := (π, ρ)) (wf := (fun u : (St) × (Nat → Int64) => wPlan k gP u.1 (gR 0) ++ (wRem k gR u.2 ++ (wBasket k gB β)))) C hP hD hS (Nat.zero_le _) (Nat.zero_le _) h d_Plan_spreadWholeShares_103
    · replace h := h.2 c1
      refine lv_aload_n hx hb d_Plan_spreadWholeShares_15 rfl (lv_at hl 0 rfl) ?_
      refine va_get (D := D) (ci := 2) (v := .ref (gR 0)) (C := R_Plan) (T := F_Plan) (N := 6) hx hb hts in_Plan hown hK hP 0 rfl rfl 5 (by decide) (hts _ kw_194) (fun _ h9 => h9) rfl d_Plan_spreadWholeShares_16 ?_
      refine lv_iload hx hb d_Plan_spreadWholeShares_19 (lv_at hl 5 rfl) ?_
      refine lv_ldc2 (v := (-1)) hx hb hown (hts _ kw_646) d_Plan_spreadWholeShares_21 ?_
      obtain ⟨hi2, h⟩ := h
      refine va_last hx hb hK hP hD hS 5 2 rfl rfl hi2 d_Plan_spreadWholeShares_24 (fun H locs hP hD hS => ?_)
      obtain ⟨ρ3, eρ3⟩ : ∃ z, z = vp_updL ρ (Int32.toNatClampNeg x5) (-1) := ⟨_, rfl⟩
      replace hP : va_P D CL (wPlan k gP π (gR 0) ++ (wRem k gR ρ3 ++ (wBasket k gB β))) H := by rw [eρ3]; exact hP
      replace hD : va_D A (wPlan k gP π (gR 0) ++ (wRem k gR ρ3 ++ (wBasket k gB β))) := by rw [eρ3]; exact hD
      replace h := h ρ3 eρ3
      refine lv_aload_n hx hb d_Plan_spreadWholeShares_25 rfl (lv_at hl 0 rfl) ?_
      refine va_get (D := D) (ci := 2) (v := .ref (gP 2)) (C := R_Plan) (T := F_Plan) (N := 6) hx hb hts in_Plan hown hK hP 0 rfl rfl 1 (by decide) (hts _ kw_186) (fun _ h9 => h9) rfl d_Plan_spreadWholeShares_26 ?_
      refine lv_iload hx hb d_Plan_spreadWholeShares_29 (lv_at hl 5 rfl) ?_
      obtain ⟨hi4, h⟩ := h
      refine va_iald hx hb hK hP 2 0 rfl rfl hi4 d_Plan_spreadWholeShares_31 ?_
      refine lv_aload_n hx hb d_Plan_spreadWholeShares_32 rfl (lv_at hl 0 rfl) ?_
      refine va_get (D := D) (ci := 2) (v := .int (π 3 0)) (C := R_Plan) (T := F_Plan) (N := 6) hx hb hts in_Plan hown hK hP 0 rfl rfl 3 (by decide) (hts _ kw_191) (fun _ h9 => h9) rfl d_Plan_spreadWholeShares_33 ?_
      refine lv_icmp_ne (tgt := 95) hx hb d_Plan_spreadWholeShares_36 (by decide) (fun c5 => ?_) (fun c5 => ?_)
      · replace h := h.1 c5
        exact t_Plan_spreadWholeShares_95 C N β post (wp_Plan_spreadWholeShares_6 N β post n) ih x2 x3 x4 x5 π ρ3 _ _ _ hP hD hS (lv_sub hl [0, 1, 2, 3, 4, 5] rfl) h
      · replace h := h.2 c5
        refine lv_iload_n hx hb d_Plan_spreadWholeShares_39 rfl (lv_at hl 3 rfl) ?_
        refine lv_if_le (tgt := 95) hx hb d_Plan_spreadWholeShares_40 (by decide) (fun c6 => ?_) (fun c6 => ?_)
        · replace h := h.1 c6
          exact t_Plan_spreadWholeShares_95 C N β post (wp_Plan_spreadWholeShares_6 N β post n) ih x2 x3 x4 x5 π ρ3 _ _ _ hP hD hS (lv_sub hl [0, 1, 2, 3, 4, 5] rfl) h
        · replace h := h.2 c6
          refine lv_iload_n hx hb d_Plan_spreadWholeShares_43 rfl (lv_at hl 2 rfl) ?_
          refine lv_i2l hx hb d_Plan_spreadWholeShares_44 rfl ?_
          refine lv_aload_n hx hb d_Plan_spreadWholeShares_45 rfl (lv_at hl 0 rfl) ?_
          refine va_get (D := D) (ci := 2) (v := .ref (gP 3)) (C := R_Plan) (T := F_Plan) (N := 6) hx hb hts in_Plan hown hK hP 0 rfl rfl 2 (by decide) (hts _ kw_188) (fun _ h9 => h9) rfl d_Plan_spreadWholeShares_46 ?_
          refine lv_iload hx hb d_Plan_spreadWholeShares_49 (lv_at hl 5 rfl) ?_
          obtain ⟨hi7, h⟩ := h
          refine va_iald hx hb hK hP 3 0 rfl rfl hi7 d_Plan_spreadWholeShares_51 ?_
          refine lv_i2l hx hb d_Plan_spreadWholeShares_52 rfl ?_
          refine lv_lmul hx hb d_Plan_spreadWholeShares_53 ?_
          refine lv_lstore (lv' := [(6, .long ((Int32.toInt64 x2) * (Int32.toInt64 (π 2 (Int32.toNatClampNeg x5))))), (0, .ref (gP 0)), (1, .ref (gB 0)), (2, .int x2), (3, .int x3), (4, .int x4), (5, .int x5)]) hx hb d_Plan_spreadWholeShares_54 hl (by decide) rfl (fun ls hl => ?_)
          refine lv_lload hx hb d_Plan_spreadWholeShares_56 (lv_at hl 0 rfl) ?_
          refine lv_iload_n hx hb d_Plan_spreadWholeShares_58 rfl (lv_at hl 4 rfl) ?_
          refine lv_i2l hx hb d_Plan_spreadWholeShares_59 rfl ?_
          obtain ⟨hz8, h⟩ := h
          refine lv_ldiv hx hb d_Plan_spreadWholeShares_60 hz8 ?_
          refine lv_l2i hx hb d_Plan_spreadWholeShares_61 rfl ?_
          refine lv_istore (lv' := [(8, .int (Int64.toInt32 (((Int32.toInt64 x2) * (Int32.toInt64 (π 2 (Int32.toNatClampNeg x5)))) / (Int32.toInt64 x3)))), (6, .long ((Int32.toInt64 x2) * (Int32.toInt64 (π 2 (Int32.toNatClampNeg x5))))), (0, .ref (gP 0)), (1, .ref (gB 0)), (2, .int x2), (3, .int x3), (4, .int x4), (5, .int x5)]) hx hb d_Plan_spreadWholeShares_62 hl (by decide) rfl (fun ls hl => ?_)
          refine lv_aload_n hx hb d_Plan_spreadWholeShares_64 rfl (lv_at hl 2 rfl) ?_
          refine va_get (D := D) (ci := 2) (v := .ref (gR 0)) (C := R_Plan) (T := F_Plan) (N := 6) hx hb hts in_Plan hown hK hP 0 rfl rfl 5 (by decide) (hts _ kw_194) (fun _ h9 => h9) rfl d_Plan_spreadWholeShares_65 ?_
          refine lv_iload hx hb d_Plan_spreadWholeShares_68 (lv_at hl 7 rfl) ?_
          refine lv_lload hx hb d_Plan_spreadWholeShares_70 (lv_at hl 1 rfl) ?_
          refine lv_iload_n hx hb d_Plan_spreadWholeShares_72 rfl (lv_at hl 5 rfl) ?_
          refine lv_i2l hx hb d_Plan_spreadWholeShares_73 rfl ?_
          obtain ⟨hz9, h⟩ := h
          refine lv_lrem hx hb d_Plan_spreadWholeShares_74 hz9 ?_
          obtain ⟨hi10, h⟩ := h
          refine va_last hx hb hK hP hD hS 5 2 rfl rfl hi10 d_Plan_spreadWholeShares_75 (fun H locs hP hD hS => ?_)
          obtain ⟨ρ11, eρ11⟩ : ∃ z, z = vp_updL ρ3 (Int32.toNatClampNeg x5) (((Int32.toInt64 x2) * (Int32.toInt64 (π 2 (Int32.toNatClampNeg x5)))) - ((Int32.toInt64 x2) * (Int32.toInt64 (π 2 (Int32.toNatClampNeg x5)))) / (Int32.toInt64 x3) * (Int32.toInt64 x3)) := ⟨_, rfl⟩
          replace hP : va_P D CL (wPlan k gP π (gR 0) ++ (wRem k gR ρ11 ++ (wBasket k gB β))) H := by rw [eρ11]; exact hP
          replace hD : va_D A (wPlan k gP π (gR 0) ++ (wRem k gR ρ11 ++ (wBasket k gB β))) := by rw [eρ11]; exact hD
          replace h := h ρ11 eρ11
          refine lv_aload_n hx hb d_Plan_spreadWholeShares_76 rfl (lv_at hl 2 rfl) ?_
          refine va_get (D := D) (ci := 2) (v := .ref (gP 3)) (C := R_Plan) (T := F_Plan) (N := 6) hx hb hts in_Plan hown hK hP 0 rfl rfl 2 (by decide) (hts _ kw_188) (fun _ h9 => h9) rfl d_Plan_spreadWholeShares_77 ?_
          refine lv_iload hx hb d_Plan_spreadWholeShares_80 (lv_at hl 7 rfl) ?_
          refine lv_dup2_11 hx hb d_Plan_spreadWholeShares_82 rfl rfl ?_
          obtain ⟨hi12, h⟩ := h
          refine va_iald hx hb hK hP 3 0 rfl rfl hi12 d_Plan_spreadWholeShares_83 ?_
          refine lv_iload hx hb d_Plan_spreadWholeShares_84 (lv_at hl 0 rfl) ?_
          refine lv_isub hx hb d_Plan_spreadWholeShares_86 ?_
          obtain ⟨hi13, h⟩ := h
          refine va_iast hx hb hK hP hD hS 3 0 rfl rfl hi13 d_Plan_spreadWholeShares_87 (fun H locs hP hD hS => ?_)
          obtain ⟨π14, eπ14⟩ : ∃ z, z = s2 π 2 (Int32.toNatClampNeg x5) ((π 2 (Int32.toNatClampNeg x5)) - (Int64.toInt32 (((Int32.toInt64 x2) * (Int32.toInt64 (π 2 (Int32.toNatClampNeg x5)))) / (Int32.toInt64 x3)))) := ⟨_, rfl⟩
          replace hP : va_P D CL (wPlan k gP π14 (gR 0) ++ (wRem k gR ρ11 ++ (wBasket k gB β))) H := by rw [eπ14]; exact hP
          replace hD : va_D A (wPlan k gP π14 (gR 0) ++ (wRem k gR ρ11 ++ (wBasket k gB β))) := by rw [eπ14]; exact hD
          replace h := h π14 eπ14
          refine lv_iload hx hb d_Plan_spreadWholeShares_88 (lv_at hl 6 rfl) ?_
          refine lv_iload hx hb d_Plan_spreadWholeShares_90 (lv_at hl 0 rfl) ?_
          refine lv_iadd hx hb d_Plan_spreadWholeShares_92 ?_
          refine lv_istore (lv' := [(4, .int (x4 + (Int64.toInt32 (((Int32.toInt64 x2) * (Int32.toInt64 (π 2 (Int32.toNatClampNeg x5)))) / (Int32.toInt64 x3))))), (8, .int (Int64.toInt32 (((Int32.toInt64 x2) * (Int32.toInt64 (π 2 (Int32.toNatClampNeg x5)))) / (Int32.toInt64 x3)))), (6, .long ((Int32.toInt64 x2) * (Int32.toInt64 (π 2 (Int32.toNatClampNeg x5))))), (0, .ref (gP 0)), (1, .ref (gB 0)), (2, .int x2), (3, .int x3), (5, .int x5)]) hx hb d_Plan_spreadWholeShares_93 hl (by decide) rfl (fun ls hl => ?_)
          exact t_Plan_spreadWholeShares_95 C N β post (wp_Plan_spreadWholeShares_6 N β post n) ih x2 x3 (x4 + (Int64.toInt32 (((Int32.toInt64 x2) * (Int32.toInt64 (π 2 (Int32.toNatClampNeg x5)))) / (Int32.toInt64 x3)))) x5 π14 ρ11 _ _ _ hP hD hS (lv_sub hl [3, 4, 5, 6, 0, 7] rfl) h
set_option maxHeartbeats 4000000 in
set_option maxRecDepth 100000 in
theorem m_Plan_spreadWholeShares {l : Launch} {D : va_G} {k : Nat → ClassId} (N : Nat) (gP : Nat → Nat) (gR : Nat → Nat) (gB : Nat → Nat) (π : St) (ρ : Nat → Int64) (β : St) (x2 : Int32) (x3 : Int32) (post : Int32 → ((St) × (Nat → Int64)) → Prop) (h : wp_Plan_spreadWholeShares N  π ρ β x2 x3 post) : Ci l D k y_Plan_spreadWholeShares b_Plan_spreadWholeShares 9 .int rm_Plan_spreadWholeShares [.ref (gP 0), .ref (gB 0), .int x2, .int x3] (wPlan k gP π (gR 0) ++ (wRem k gR ρ ++ (wBasket k gB β))) (fun u : (St) × (Nat → Int64) => wPlan k gP u.1 (gR 0) ++ (wRem k gR u.2 ++ (wBasket k gB β))) post := by
  refine Ci.of (by decide) (Nat.le_of_ble_eq_true rfl) ?_
  intro p e s m below meth c A H locs ls C hP hD hS hl
  obtain ⟨hx, hb, hr, hlk, hml, hown, hts, hK, hA⟩ := id C
  replace hl : lv_has ls 9 [(0, .ref (gP 0)), (1, .ref (gB 0)), (2, .int x2), (3, .int x3)] := hl
  unfold wp_Plan_spreadWholeShares at h
  refine lv_iconst (v := 0) hx hb d_Plan_spreadWholeShares_0 (by decide) ?_
  refine lv_istore (lv' := [(4, .int 0), (0, .ref (gP 0)), (1, .ref (gB 0)), (2, .int x2), (3, .int x3)]) hx hb d_Plan_spreadWholeShares_1 hl (by decide) rfl (fun ls hl => ?_)
  refine lv_iconst (v := 0) hx hb d_Plan_spreadWholeShares_3 (by decide) ?_
  refine lv_istore (lv' := [(5, .int 0), (4, .int 0), (0, .ref (gP 0)), (1, .ref (gB 0)), (2, .int x2), (3, .int x3)]) hx hb d_Plan_spreadWholeShares_4 hl (by decide) rfl (fun ls hl => ?_)
  exact t_Plan_spreadWholeShares_6 C N β post   N x2 x3 0 0 π ρ _ _ _ hP hD hS (lv_sub hl [2, 3, 4, 5, 1, 0] rfl) h
set_option maxHeartbeats 4000000 in
set_option maxRecDepth 100000 in
theorem t_Plan_spreadRest_50 {p : Program} {l : Launch} {e : Env} {s : State} {m : MethodId} {args : Array Value} {below : List Frame} {meth : Method} {c : Code} {A : Nat → Prop} {D : va_G} {k : Nat → ClassId} {gP : Nat → Nat} {gR : Nat → Nat} {gB : Nat → Nat} (C : Cx p s m args meth c D k "PromotionTill$Plan" b_Plan_spreadRest 6 none A) (N : Nat) (β : St) (post : ((St) × (Nat → Int64)) → Prop) (K_19 : Int32 → Int32 → Int32 → Int32 → (St) → (Nat → Int64) → Prop) (hK_19 : ∀ (x2 : Int32) (x3 : Int32) (x4 : Int32) (x5 : Int32) (π : (St)) (ρ : (Nat → Int64)) (H : Heap) (locs : List Loc) (ls : Array Slot), va_P D CL (wPlan k gP π (gR 0) ++ (wRem k gR ρ ++ (wBasket k gB β))) H → va_D A (wPlan k gP π (gR 0) ++ (wRem k gR ρ ++ (wBasket k gB β))) → va_S A s.heap H locs → lv_has ls 6 [(0, .ref (gP 0)), (1, .ref (gB 0)), (2, .int x2), (3, .int x3), (4, .int x4), (5, .int x5)] → K_19 x2 x3 x4 x5 π ρ → W p l e rm_Plan_spreadRest s m args below meth c H locs 0 0 (MQ below (va_Qv post (fun (u : (St) × (Nat → Int64)) t => va_P D CL (wPlan k gP u.1 (gR 0) ++ (wRem k gR u.2 ++ (wBasket k gB β))) t.heap ∧ va_D A (wPlan k gP u.1 (gR 0) ++ (wRem k gR u.2 ++ (wBasket k gB β)))) A) args s rm_Plan_spreadRest.cells rm_Plan_spreadRest.slots A) (F0 m 19 ls [])) :
    ∀ (x2 : Int32) (x3 : Int32) (x4 : Int32) (x5 : Int32) (π : (St)) (ρ : (Nat → Int64)) (H : Heap) (locs : List Loc) (ls : Array Slot), va_P D CL (wPlan k gP π (gR 0) ++ (wRem k gR ρ ++ (wBasket k gB β))) H → va_D A (wPlan k gP π (gR 0) ++ (wRem k gR ρ ++ (wBasket k gB β))) → va_S A s.heap H locs → lv_has ls 6 [(0, .ref (gP 0)), (1, .ref (gB 0)), (2, .int x2), (3, .int x3), (4, .int x4), (5, .int x5)] → wp_Plan_spreadRest_50 N β post K_19 x2 x3 x4 x5 π ρ → W p l e rm_Plan_spreadRest s m args below meth c H locs 0 0 (MQ below (va_Qv post (fun (u : (St) × (Nat → Int64)) t => va_P D CL (wPlan k gP u.1 (gR 0) ++ (wRem k gR u.2 ++ (wBasket k gB β))) t.heap ∧ va_D A (wPlan k gP u.1 (gR 0) ++ (wRem k gR u.2 ++ (wBasket k gB β)))) A) args s rm_Plan_spreadRest.cells rm_Plan_spreadRest.slots A) (F0 m 50 ls []) := by
  obtain ⟨hx, hb, hr, hlk, hml, hown, hts, hK, hA⟩ := id C
  intro x2 x3 x4 x5 π ρ H locs ls hP hD hS hl h
  unfold wp_Plan_spreadRest_50 at h
  refine lv_iinc (v := x5 + 1) (lv' := [(5, .int (x5 + 1)), (0, .ref (gP 0)), (1, .ref (gB 0)), (2, .int x2), (3, .int x3), (4, .int x4)]) hx hb d_Plan_spreadRest_50 hl (k := 5) rfl rfl (by decide) rfl (fun ls hl => ?_)
  refine lv_goto (tgt := 19) hx hb d_Plan_spreadRest_53 (by decide) ?_
  exact hK_19 x2 x3 x4 (x5 + 1) π ρ _ _ _ hP hD hS (lv_sub hl [1, 2, 3, 4, 5, 0] rfl) h
set_option maxHeartbeats 4000000 in
set_option maxRecDepth 100000 in
theorem t_Plan_spreadRest_19 {p : Program} {l : Launch} {e : Env} {s : State} {m : MethodId} {args : Array Value} {below : List Frame} {meth : Method} {c : Code} {A : Nat → Prop} {D : va_G} {k : Nat → ClassId} {gP : Nat → Nat} {gR : Nat → Nat} {gB : Nat → Nat} (C : Cx p s m args meth c D k "PromotionTill$Plan" b_Plan_spreadRest 6 none A) (N : Nat) (β : St) (post : ((St) × (Nat → Int64)) → Prop) (K_2 : Int32 → Int32 → (St) → (Nat → Int64) → Prop) (hK_2 : ∀ (x2 : Int32) (x3 : Int32) (π : (St)) (ρ : (Nat → Int64)) (H : Heap) (locs : List Loc) (ls : Array Slot), va_P D CL (wPlan k gP π (gR 0) ++ (wRem k gR ρ ++ (wBasket k gB β))) H → va_D A (wPlan k gP π (gR 0) ++ (wRem k gR ρ ++ (wBasket k gB β))) → va_S A s.heap H locs → lv_has ls 6 [(0, .ref (gP 0)), (1, .ref (gB 0)), (2, .int x2), (3, .int x3)] → K_2 x2 x3 π ρ → W p l e rm_Plan_spreadRest s m args below meth c H locs 0 0 (MQ below (va_Qv post (fun (u : (St) × (Nat → Int64)) t => va_P D CL (wPlan k gP u.1 (gR 0) ++ (wRem k gR u.2 ++ (wBasket k gB β))) t.heap ∧ va_D A (wPlan k gP u.1 (gR 0) ++ (wRem k gR u.2 ++ (wBasket k gB β)))) A) args s rm_Plan_spreadRest.cells rm_Plan_spreadRest.slots A) (F0 m 2 ls [])) :
    ∀ (n : Nat) (x2 : Int32) (x3 : Int32) (x4 : Int32) (x5 : Int32) (π : (St)) (ρ : (Nat → Int64)) (H : Heap) (locs : List Loc) (ls : Array Slot), va_P D CL (wPlan k gP π (gR 0) ++ (wRem k gR ρ ++ (wBasket k gB β))) H → va_D A (wPlan k gP π (gR 0) ++ (wRem k gR ρ ++ (wBasket k gB β))) → va_S A s.heap H locs → lv_has ls 6 [(0, .ref (gP 0)), (1, .ref (gB 0)), (2, .int x2), (3, .int x3), (4, .int x4), (5, .int x5)] → wp_Plan_spreadRest_19 N β post K_2 n x2 x3 x4 x5 π ρ → W p l e rm_Plan_spreadRest s m args below meth c H locs 0 0 (MQ below (va_Qv post (fun (u : (St) × (Nat → Int64)) t => va_P D CL (wPlan k gP u.1 (gR 0) ++ (wRem k gR u.2 ++ (wBasket k gB β))) t.heap ∧ va_D A (wPlan k gP u.1 (gR 0) ++ (wRem k gR u.2 ++ (wBasket k gB β)))) A) args s rm_Plan_spreadRest.cells rm_Plan_spreadRest.slots A) (F0 m 19 ls []) := by
  obtain ⟨hx, hb, hr, hlk, hml, hown, hts, hK, hA⟩ := id C
  intro n
  induction n with
  | zero =>
    intro x2 x3 x4 x5 π ρ H locs ls hP hD hS hl h
    exact absurd h (by simp [wp_Plan_spreadRest_19])
  | succ n ih =>
    intro x2 x3 x4 x5 π ρ H locs ls hP hD hS hl h
    rw [wp_Plan_spreadRest_19] at h
    refine lv_iload hx hb d_Plan_spreadRest_19 (lv_at hl 5 rfl) ?_
    refine lv_aload_n hx hb d_Plan_spreadRest_21 rfl (lv_at hl 1 rfl) ?_
    refine va_get (D := D) (ci := 0) (v := .int (β 1 0)) (C := R_Basket) (T := F_Basket) (N := 2) hx hb hts in_Basket hown hK hP 6 rfl rfl 1 (by decide) (hts _ kw_107) (fun _ h9 => h9) rfl d_Plan_spreadRest_22 ?_
    refine lv_icmp_ge (tgt := 56) hx hb d_Plan_spreadRest_25 (by decide) (fun c3 => ?_) (fun c3 => ?_)
    · replace h := h.1 c3
      refine lv_aload_n hx hb d_Plan_spreadRest_56 rfl (lv_at hl 0 rfl) ?_
      refine va_get (D := D) (ci := 2) (v := .ref (gP 3)) (C := R_Plan) (T := F_Plan) (N := 6) hx hb hts in_Plan hown hK hP 0 rfl rfl 2 (by decide) (hts _ kw_188) (fun _ h9 => h9) rfl d_Plan_spreadRest_57 ?_
      refine lv_iload hx hb d_Plan_spreadRest_60 (lv_at hl 4 rfl) ?_
      refine lv_dup2_11 hx hb d_Plan_spreadRest_62 rfl rfl ?_
      obtain ⟨hi4, h⟩ := h
      refine va_iald hx hb hK hP 3 0 rfl rfl hi4 d_Plan_spreadRest_63 ?_
      refine lv_iconst (v := 1) hx hb d_Plan_spreadRest_64 (by decide) ?_
      refine lv_isub hx hb d_Plan_spreadRest_65 ?_
      obtain ⟨hi5, h⟩ := h
      refine va_iast hx hb hK hP hD hS 3 0 rfl rfl hi5 d_Plan_spreadRest_66 (fun H locs hP hD hS => ?_)
      obtain ⟨π6, eπ6⟩ : ∃ z, z = s2 π 2 (Int32.toNatClampNeg x4) ((π 2 (Int32.toNatClampNeg x4)) - 1) := ⟨_, rfl⟩
      replace hP : va_P D CL (wPlan k gP π6 (gR 0) ++ (wRem k gR ρ ++ (wBasket k gB β))) H := by rw [eπ6]; exact hP
      replace hD : va_D A (wPlan k gP π6 (gR 0) ++ (wRem k gR ρ ++ (wBasket k gB β))) := by rw [eπ6]; exact hD
      replace h := h π6 eπ6
      refine lv_aload_n hx hb d_Plan_spreadRest_67 rfl (lv_at hl 0 rfl) ?_
      refine va_get (D := D) (ci := 2) (v := .ref (gR 0)) (C := R_Plan) (T := F_Plan) (N := 6) hx hb hts in_Plan hown hK hP 0 rfl rfl 5 (by decide) (hts _ kw_194) (fun _ h9 => h9) rfl d_Plan_spreadRest_68 ?_
      refine lv_iload hx hb d_Plan_spreadRest_71 (lv_at hl 4 rfl) ?_
      refine lv_ldc2 (v := (-1)) hx hb hown (hts _ kw_646) d_Plan_spreadRest_73 ?_
      obtain ⟨hi7, h⟩ := h
      refine va_last hx hb hK hP hD hS 5 2 rfl rfl hi7 d_Plan_spreadRest_76 (fun H locs hP hD hS => ?_)
      obtain ⟨ρ8, eρ8⟩ : ∃ z, z = vp_updL ρ (Int32.toNatClampNeg x4) (-1) := ⟨_, rfl⟩
      replace hP : va_P D CL (wPlan k gP π6 (gR 0) ++ (wRem k gR ρ8 ++ (wBasket k gB β))) H := by rw [eρ8]; exact hP
      replace hD : va_D A (wPlan k gP π6 (gR 0) ++ (wRem k gR ρ8 ++ (wBasket k gB β))) := by rw [eρ8]; exact hD
      replace h := h ρ8 eρ8
      refine lv_iinc (v := x3 + 1) (lv' := [(3, .int (x3 + 1)), (0, .ref (gP 0)), (1, .ref (gB 0)), (2, .int x2), (4, .int x4), (5, .int x5)]) hx hb d_Plan_spreadRest_77 hl (k := 3) rfl rfl (by decide) rfl (fun ls hl => ?_)
      refine lv_goto (tgt := 2) hx hb d_Plan_spreadRest_80 (by decide) ?_
      exact hK_2 x2 (x3 + 1) π6 ρ8 _ _ _ hP hD hS (lv_sub hl [1, 2, 3, 0] rfl) h
    · replace h := h.2 c3
      refine lv_aload_n hx hb d_Plan_spreadRest_28 rfl (lv_at hl 0 rfl) ?_
      refine va_get (D := D) (ci := 2) (v := .ref (gR 0)) (C := R_Plan) (T := F_Plan) (N := 6) hx hb hts in_Plan hown hK hP 0 rfl rfl 5 (by decide) (hts _ kw_194) (fun _ h9 => h9) rfl d_Plan_spreadRest_29 ?_
      refine lv_iload hx hb d_Plan_spreadRest_32 (lv_at hl 5 rfl) ?_
      obtain ⟨hi9, h⟩ := h
      refine va_lald hx hb hK hP 5 2 rfl rfl hi9 d_Plan_spreadRest_34 ?_
      refine lv_aload_n hx hb d_Plan_spreadRest_35 rfl (lv_at hl 0 rfl) ?_
      refine va_get (D := D) (ci := 2) (v := .ref (gR 0)) (C := R_Plan) (T := F_Plan) (N := 6) hx hb hts in_Plan hown hK hP 0 rfl rfl 5 (by decide) (hts _ kw_194) (fun _ h9 => h9) rfl d_Plan_spreadRest_36 ?_
      refine lv_iload hx hb d_Plan_spreadRest_39 (lv_at hl 4 rfl) ?_
      obtain ⟨hi10, h⟩ := h
      refine va_lald hx hb hK hP 5 2 rfl rfl hi10 d_Plan_spreadRest_41 ?_
      refine W.lcmp hx hb d_Plan_spreadRest_42 ?_
      refine lv_if_le (tgt := 50) hx hb d_Plan_spreadRest_43 (by decide) (fun c11 => ?_) (fun c11 => ?_)
      · replace h := h.1 c11
        exact t_Plan_spreadRest_50 C N β post (wp_Plan_spreadRest_19 N β post K_2 n) ih x2 x3 x4 x5 π ρ _ _ _ hP hD hS (lv_sub hl [0, 1, 2, 3, 4, 5] rfl) h
      · replace h := h.2 c11
        refine lv_iload hx hb d_Plan_spreadRest_46 (lv_at hl 5 rfl) ?_
        refine lv_istore (lv' := [(4, .int x5), (0, .ref (gP 0)), (1, .ref (gB 0)), (2, .int x2), (3, .int x3), (5, .int x5)]) hx hb d_Plan_spreadRest_48 hl (by decide) rfl (fun ls hl => ?_)
        exact t_Plan_spreadRest_50 C N β post (wp_Plan_spreadRest_19 N β post K_2 n) ih x2 x3 x5 x5 π ρ _ _ _ hP hD hS (lv_sub hl [1, 2, 3, 4, 0, 5] rfl) h
set_option maxHeartbeats 4000000 in
set_option maxRecDepth 100000 in
theorem t_Plan_spreadRest_2 {p : Program} {l : Launch} {e : Env} {s : State} {m : MethodId} {args : Array Value} {below : List Frame} {meth : Method} {c : Code} {A : Nat → Prop} {D : va_G} {k : Nat → ClassId} {gP : Nat → Nat} {gR : Nat → Nat} {gB : Nat → Nat} (C : Cx p s m args meth c D k "PromotionTill$Plan" b_Plan_spreadRest 6 none A) (N : Nat) (β : St) (post : ((St) × (Nat → Int64)) → Prop) :
    ∀ (n : Nat) (x2 : Int32) (x3 : Int32) (π : (St)) (ρ : (Nat → Int64)) (H : Heap) (locs : List Loc) (ls : Array Slot), va_P D CL (wPlan k gP π (gR 0) ++ (wRem k gR ρ ++ (wBasket k gB β))) H → va_D A (wPlan k gP π (gR 0) ++ (wRem k gR ρ ++ (wBasket k gB β))) → va_S A s.heap H locs → lv_has ls 6 [(0, .ref (gP 0)), (1, .ref (gB 0)), (2, .int x2), (3, .int x3)] → wp_Plan_spreadRest_2 N β post n x2 x3 π ρ → W p l e rm_Plan_spreadRest s m args below meth c H locs 0 0 (MQ below (va_Qv post (fun (u : (St) × (Nat → Int64)) t => va_P D CL (wPlan k gP u.1 (gR 0) ++ (wRem k gR u.2 ++ (wBasket k gB β))) t.heap ∧ va_D A (wPlan k gP u.1 (gR 0) ++ (wRem k gR u.2 ++ (wBasket k gB β)))) A) args s rm_Plan_spreadRest.cells rm_Plan_spreadRest.slots A) (F0 m 2 ls []) := by
  obtain ⟨hx, hb, hr, hlk, hml, hown, hts, hK, hA⟩ := id C
  intro n
  induction n with
  | zero =>
    intro x2 x3 π ρ H locs ls hP hD hS hl h
    exact absurd h (by simp [wp_Plan_spreadRest_2])
  | succ n ih =>
    intro x2 x3 π ρ H locs ls hP hD hS hl h
    rw [wp_Plan_spreadRest_2] at h
    refine lv_iload_n hx hb d_Plan_spreadRest_2 rfl (lv_at hl 3 rfl) ?_
    refine lv_iload_n hx hb d_Plan_spreadRest_3 rfl (lv_at hl 2 rfl) ?_
    refine lv_icmp_ge (tgt := 83) hx hb d_Plan_spreadRest_4 (by decide) (fun c1 => ?_) (fun c1 => ?_)
    · replace h := h.1 c1
      exact ret_v (u := (π, ρ)) (wf := (fun u : (St) × (Nat → Int64) => wPlan k gP u.1 (gR 0) ++ (wRem k gR u.2 ++ (wBasket k gB β)))) C hP hD hS (Nat.zero_le _) (Nat.zero_le _) h d_Plan_spreadRest_83
    · replace h := h.2 c1
      refine lv_iload_n hx hb d_Plan_spreadRest_7 rfl (lv_at hl 3 rfl) ?_
      refine lv_bipush (v := 10) hx hb d_Plan_spreadRest_8 (by decide) ?_
      refine lv_icmp_ge (tgt := 83) hx hb d_Plan_spreadRest_10 (by decide) (fun c2 => ?_) (fun c2 => ?_)
      · replace h := h.1 c2
        exact ret_v (u := (π, ρ)) (wf := (fun u : (St) × (Nat → Int64) => wPlan k gP u.1 (gR 0) ++ (wRem k gR u.2 ++ (wBasket k gB β)))) C hP hD hS (Nat.zero_le _) (Nat.zero_le _) h d_Plan_spreadRest_83
      · replace h := h.2 c2
        refine lv_iconst (v := 0) hx hb d_Plan_spreadRest_13 (by decide) ?_
        refine lv_istore (lv' := [(4, .int 0), (0, .ref (gP 0)), (1, .ref (gB 0)), (2, .int x2), (3, .int x3)]) hx hb d_Plan_spreadRest_14 hl (by decide) rfl (fun ls hl => ?_)
        refine lv_iconst (v := 1) hx hb d_Plan_spreadRest_16 (by decide) ?_
        refine lv_istore (lv' := [(5, .int 1), (4, .int 0), (0, .ref (gP 0)), (1, .ref (gB 0)), (2, .int x2), (3, .int x3)]) hx hb d_Plan_spreadRest_17 hl (by decide) rfl (fun ls hl => ?_)
        exact t_Plan_spreadRest_19 C N β post (wp_Plan_spreadRest_2 N β post n) ih N x2 x3 0 1 π ρ _ _ _ hP hD hS (lv_sub hl [2, 3, 4, 5, 1, 0] rfl) h
set_option maxHeartbeats 4000000 in
set_option maxRecDepth 100000 in
theorem m_Plan_spreadRest {l : Launch} {D : va_G} {k : Nat → ClassId} (N : Nat) (gP : Nat → Nat) (gR : Nat → Nat) (gB : Nat → Nat) (π : St) (ρ : Nat → Int64) (β : St) (x2 : Int32) (post : ((St) × (Nat → Int64)) → Prop) (h : wp_Plan_spreadRest N  π ρ β x2 post) : Cv l D k y_Plan_spreadRest b_Plan_spreadRest 6 rm_Plan_spreadRest [.ref (gP 0), .ref (gB 0), .int x2] (wPlan k gP π (gR 0) ++ (wRem k gR ρ ++ (wBasket k gB β))) (fun u : (St) × (Nat → Int64) => wPlan k gP u.1 (gR 0) ++ (wRem k gR u.2 ++ (wBasket k gB β))) post := by
  refine Cv.of (by decide) (Nat.le_of_ble_eq_true rfl) ?_
  intro p e s m below meth c A H locs ls C hP hD hS hl
  obtain ⟨hx, hb, hr, hlk, hml, hown, hts, hK, hA⟩ := id C
  replace hl : lv_has ls 6 [(0, .ref (gP 0)), (1, .ref (gB 0)), (2, .int x2)] := hl
  unfold wp_Plan_spreadRest at h
  refine lv_iconst (v := 0) hx hb d_Plan_spreadRest_0 (by decide) ?_
  refine lv_istore_n (lv' := [(3, .int 0), (0, .ref (gP 0)), (1, .ref (gB 0)), (2, .int x2)]) hx hb d_Plan_spreadRest_1 rfl hl (by decide) rfl (fun ls hl => ?_)
  exact t_Plan_spreadRest_2 C N β post   N x2 0 π ρ _ _ _ hP hD hS (lv_sub hl [1, 2, 3, 0] rfl) h
set_option maxHeartbeats 4000000 in
set_option maxRecDepth 100000 in
theorem t_Plan_endUse_66 {p : Program} {l : Launch} {e : Env} {s : State} {m : MethodId} {args : Array Value} {below : List Frame} {meth : Method} {c : Code} {A : Nat → Prop} {D : va_G} {k : Nat → ClassId} {gP : Nat → Nat} {gR : Nat → Nat} {gB : Nat → Nat} (C : Cx p s m args meth c D k "PromotionTill$Plan" b_Plan_endUse 5 none A) (N : Nat) (β : St) (post : ((St) × (Nat → Int64)) → Prop) :
    ∀ (π : (St)) (ρ : (Nat → Int64)) (H : Heap) (locs : List Loc) (ls : Array Slot), va_P D CL (wPlan k gP π (gR 0) ++ (wRem k gR ρ ++ (wBasket k gB β))) H → va_D A (wPlan k gP π (gR 0) ++ (wRem k gR ρ ++ (wBasket k gB β))) → va_S A s.heap H locs → lv_has ls 5 [(0, .ref (gP 0))] → wp_Plan_endUse_66 N β post π ρ → W p l e rm_Plan_endUse s m args below meth c H locs 0 0 (MQ below (va_Qv post (fun (u : (St) × (Nat → Int64)) t => va_P D CL (wPlan k gP u.1 (gR 0) ++ (wRem k gR u.2 ++ (wBasket k gB β))) t.heap ∧ va_D A (wPlan k gP u.1 (gR 0) ++ (wRem k gR u.2 ++ (wBasket k gB β)))) A) args s rm_Plan_endUse.cells rm_Plan_endUse.slots A) (F0 m 66 ls []) := by
  obtain ⟨hx, hb, hr, hlk, hml, hown, hts, hK, hA⟩ := id C
  intro π ρ H locs ls hP hD hS hl h
  unfold wp_Plan_endUse_66 at h
  refine lv_aload_n hx hb d_Plan_endUse_66 rfl (lv_at hl 0 rfl) ?_
  refine lv_dup hx hb d_Plan_endUse_67 rfl ?_
  refine va_get (D := D) (ci := 2) (v := .int (π 3 0)) (C := R_Plan) (T := F_Plan) (N := 6) hx hb hts in_Plan hown hK hP 0 rfl rfl 3 (by decide) (hts _ kw_191) (fun _ h9 => h9) rfl d_Plan_endUse_68 ?_
  refine lv_iconst (v := 1) hx hb d_Plan_endUse_71 (by decide) ?_
  refine lv_iadd hx hb d_Plan_endUse_72 ?_
  refine va_put (D := D) (ci := 2) (v := .int ((π 3 0) + 1)) (ty := .int) (C := R_Plan) (T := F_Plan) (N := 6) hx hb hts in_Plan t_Plan tt_Plan n_Plan hown hK hP hD hS 0 rfl rfl 3 (by decide) (hts _ kw_191) (fun _ h9 => h9) rfl (by decide +kernel) rfl rfl (Nat.le_of_ble_eq_true rfl) d_Plan_endUse_73 (fun H locs hP hD hS => ?_)
  obtain ⟨π10, eπ10⟩ : ∃ z, z = s2 π 3 0 ((π 3 0) + 1) := ⟨_, rfl⟩
  replace hP : va_P D CL (wPlan k gP π10 (gR 0) ++ (wRem k gR ρ ++ (wBasket k gB β))) H := by rw [eπ10]; exact hP
  replace hD : va_D A (wPlan k gP π10 (gR 0) ++ (wRem k gR ρ ++ (wBasket k gB β))) := by rw [eπ10]; exact hD
  replace h := h π10 eπ10
  exact ret_v (u := (π10, ρ)) (wf := (fun u : (St) × (Nat → Int64) => wPlan k gP u.1 (gR 0) ++ (wRem k gR u.2 ++ (wBasket k gB β)))) C hP hD hS (Nat.zero_le _) (Nat.zero_le _) h d_Plan_endUse_76
set_option maxHeartbeats 4000000 in
set_option maxRecDepth 100000 in
theorem t_Plan_endUse_38 {p : Program} {l : Launch} {e : Env} {s : State} {m : MethodId} {args : Array Value} {below : List Frame} {meth : Method} {c : Code} {A : Nat → Prop} {D : va_G} {k : Nat → ClassId} {gP : Nat → Nat} {gR : Nat → Nat} {gB : Nat → Nat} (C : Cx p s m args meth c D k "PromotionTill$Plan" b_Plan_endUse 5 none A) (N : Nat) (β : St) (post : ((St) × (Nat → Int64)) → Prop) (K_5 : Int32 → Int32 → Int32 → (St) → (Nat → Int64) → Prop) (hK_5 : ∀ (x2 : Int32) (x3 : Int32) (x4 : Int32) (π : (St)) (ρ : (Nat → Int64)) (H : Heap) (locs : List Loc) (ls : Array Slot), va_P D CL (wPlan k gP π (gR 0) ++ (wRem k gR ρ ++ (wBasket k gB β))) H → va_D A (wPlan k gP π (gR 0) ++ (wRem k gR ρ ++ (wBasket k gB β))) → va_S A s.heap H locs → lv_has ls 5 [(0, .ref (gP 0)), (1, .ref (gB 0)), (2, .int x2), (3, .int x3), (4, .int x4)] → K_5 x2 x3 x4 π ρ → W p l e rm_Plan_endUse s m args below meth c H locs 0 0 (MQ below (va_Qv post (fun (u : (St) × (Nat → Int64)) t => va_P D CL (wPlan k gP u.1 (gR 0) ++ (wRem k gR u.2 ++ (wBasket k gB β))) t.heap ∧ va_D A (wPlan k gP u.1 (gR 0) ++ (wRem k gR u.2 ++ (wBasket k gB β)))) A) args s rm_Plan_endUse.cells rm_Plan_endUse.slots A) (F0 m 5 ls [])) :
    ∀ (x2 : Int32) (x3 : Int32) (x4 : Int32) (π : (St)) (ρ : (Nat → Int64)) (H : Heap) (locs : List Loc) (ls : Array Slot), va_P D CL (wPlan k gP π (gR 0) ++ (wRem k gR ρ ++ (wBasket k gB β))) H → va_D A (wPlan k gP π (gR 0) ++ (wRem k gR ρ ++ (wBasket k gB β))) → va_S A s.heap H locs → lv_has ls 5 [(0, .ref (gP 0)), (1, .ref (gB 0)), (2, .int x2), (3, .int x3), (4, .int x4)] → wp_Plan_endUse_38 N β post K_5 x2 x3 x4 π ρ → W p l e rm_Plan_endUse s m args below meth c H locs 0 0 (MQ below (va_Qv post (fun (u : (St) × (Nat → Int64)) t => va_P D CL (wPlan k gP u.1 (gR 0) ++ (wRem k gR u.2 ++ (wBasket k gB β))) t.heap ∧ va_D A (wPlan k gP u.1 (gR 0) ++ (wRem k gR u.2 ++ (wBasket k gB β)))) A) args s rm_Plan_endUse.cells rm_Plan_endUse.slots A) (F0 m 38 ls []) := by
  obtain ⟨hx, hb, hr, hlk, hml, hown, hts, hK, hA⟩ := id C
  intro x2 x3 x4 π ρ H locs ls hP hD hS hl h
  unfold wp_Plan_endUse_38 at h
  refine lv_iinc (v := x4 + 1) (lv' := [(4, .int (x4 + 1)), (0, .ref (gP 0)), (1, .ref (gB 0)), (2, .int x2), (3, .int x3)]) hx hb d_Plan_endUse_38 hl (k := 4) rfl rfl (by decide) rfl (fun ls hl => ?_)
  refine lv_goto (tgt := 5) hx hb d_Plan_endUse_41 (by decide) ?_
  exact hK_5 x2 x3 (x4 + 1) π ρ _ _ _ hP hD hS (lv_sub hl [1, 2, 3, 4, 0] rfl) h
set_option maxHeartbeats 4000000 in
set_option maxRecDepth 100000 in
theorem t_Plan_endUse_5 {p : Program} {l : Launch} {e : Env} {s : State} {m : MethodId} {args : Array Value} {below : List Frame} {meth : Method} {c : Code} {A : Nat → Prop} {D : va_G} {k : Nat → ClassId} {gP : Nat → Nat} {gR : Nat → Nat} {gB : Nat → Nat} (C : Cx p s m args meth c D k "PromotionTill$Plan" b_Plan_endUse 5 none A) (N : Nat) (β : St) (post : ((St) × (Nat → Int64)) → Prop) :
    ∀ (n : Nat) (x2 : Int32) (x3 : Int32) (x4 : Int32) (π : (St)) (ρ : (Nat → Int64)) (H : Heap) (locs : List Loc) (ls : Array Slot), va_P D CL (wPlan k gP π (gR 0) ++ (wRem k gR ρ ++ (wBasket k gB β))) H → va_D A (wPlan k gP π (gR 0) ++ (wRem k gR ρ ++ (wBasket k gB β))) → va_S A s.heap H locs → lv_has ls 5 [(0, .ref (gP 0)), (1, .ref (gB 0)), (2, .int x2), (3, .int x3), (4, .int x4)] → wp_Plan_endUse_5 N β post n x2 x3 x4 π ρ → W p l e rm_Plan_endUse s m args below meth c H locs 0 0 (MQ below (va_Qv post (fun (u : (St) × (Nat → Int64)) t => va_P D CL (wPlan k gP u.1 (gR 0) ++ (wRem k gR u.2 ++ (wBasket k gB β))) t.heap ∧ va_D A (wPlan k gP u.1 (gR 0) ++ (wRem k gR u.2 ++ (wBasket k gB β)))) A) args s rm_Plan_endUse.cells rm_Plan_endUse.slots A) (F0 m 5 ls []) := by
  obtain ⟨hx, hb, hr, hlk, hml, hown, hts, hK, hA⟩ := id C
  intro n
  induction n with
  | zero =>
    intro x2 x3 x4 π ρ H locs ls hP hD hS hl h
    exact absurd h (by simp [wp_Plan_endUse_5])
  | succ n ih =>
    intro x2 x3 x4 π ρ H locs ls hP hD hS hl h
    rw [wp_Plan_endUse_5] at h
    refine lv_iload hx hb d_Plan_endUse_5 (lv_at hl 4 rfl) ?_
    refine lv_aload_n hx hb d_Plan_endUse_7 rfl (lv_at hl 1 rfl) ?_
    refine va_get (D := D) (ci := 0) (v := .int (β 1 0)) (C := R_Basket) (T := F_Basket) (N := 2) hx hb hts in_Basket hown hK hP 6 rfl rfl 1 (by decide) (hts _ kw_107) (fun _ h9 => h9) rfl d_Plan_endUse_8 ?_
    refine lv_icmp_ge (tgt := 44) hx hb d_Plan_endUse_11 (by decide) (fun c1 => ?_) (fun c1 => ?_)
    · replace h := h.1 c1
      refine lv_iload_n hx hb d_Plan_endUse_44 rfl (lv_at hl 3 rfl) ?_
      refine lv_if_le (tgt := 66) hx hb d_Plan_endUse_45 (by decide) (fun c2 => ?_) (fun c2 => ?_)
      · replace h := h.1 c2
        exact t_Plan_endUse_66 C N β post π ρ _ _ _ hP hD hS (lv_sub hl [0] rfl) h
      · replace h := h.2 c2
        refine lv_iload_n hx hb d_Plan_endUse_48 rfl (lv_at hl 2 rfl) ?_
        refine lv_aload_n hx hb d_Plan_endUse_49 rfl (lv_at hl 0 rfl) ?_
        refine lv_aload_n hx hb d_Plan_endUse_50 rfl (lv_at hl 1 rfl) ?_
        refine lv_iload_n hx hb d_Plan_endUse_51 rfl (lv_at hl 2 rfl) ?_
        refine lv_iload_n hx hb d_Plan_endUse_52 rfl (lv_at hl 3 rfl) ?_
        refine same_i C hP hD hS (runV (As := [.ref (gB 0), .int x2, .int x3]) (rest := [.int x2]) C hP hD (m_Plan_spreadWholeShares N gP gR gB π ρ β x2 x3  _ h H.size) kw_642 kw_644 kp_19 kw_8 kw_645 hd_Plan_spreadWholeShares ⟨Nat.le_of_ble_eq_true rfl, Nat.le_of_ble_eq_true rfl⟩ ⟨Nat.le_of_ble_eq_true rfl, Nat.le_of_ble_eq_true rfl⟩ 0 rfl rfl rfl rfl hl.1 (Nat.le_of_ble_eq_true rfl) d_Plan_endUse_53) (fun r4 u3 H locs h hP hD hS => ?_)
        replace hP : va_P D CL (wPlan k gP u3.1 (gR 0) ++ (wRem k gR u3.2 ++ (wBasket k gB β))) H := hP
        replace hD : va_D A (wPlan k gP u3.1 (gR 0) ++ (wRem k gR u3.2 ++ (wBasket k gB β))) := hD
        try dsimp only at h
        refine lv_isub hx hb d_Plan_endUse_56 ?_
        refine lv_istore (lv' := [(4, .int (x2 - r4)), (0, .ref (gP 0)), (1, .ref (gB 0)), (2, .int x2), (3, .int x3)]) hx hb d_Plan_endUse_57 hl (by decide) rfl (fun ls hl => ?_)
        refine lv_aload_n hx hb d_Plan_endUse_59 rfl (lv_at hl 1 rfl) ?_
        refine lv_aload_n hx hb d_Plan_endUse_60 rfl (lv_at hl 2 rfl) ?_
        refine lv_iload hx hb d_Plan_endUse_61 (lv_at hl 0 rfl) ?_
        refine same_v C hP hD hS (runV (As := [.ref (gB 0), .int (x2 - r4)]) (rest := []) C hP hD (m_Plan_spreadRest N gP gR gB u3.1 u3.2 β (x2 - r4)  _ h H.size) kw_647 kw_649 kp_20 kw_8 kw_650 hd_Plan_spreadRest ⟨Nat.le_of_ble_eq_true rfl, Nat.le_of_ble_eq_true rfl⟩ ⟨Nat.le_of_ble_eq_true rfl, Nat.le_of_ble_eq_true rfl⟩ 0 rfl rfl rfl rfl hl.1 (Nat.le_of_ble_eq_true rfl) d_Plan_endUse_63) (fun u5 H locs h hP hD hS => ?_)
        replace hP : va_P D CL (wPlan k gP u5.1 (gR 0) ++ (wRem k gR u5.2 ++ (wBasket k gB β))) H := hP
        replace hD : va_D A (wPlan k gP u5.1 (gR 0) ++ (wRem k gR u5.2 ++ (wBasket k gB β))) := hD
        try dsimp only at h
        exact t_Plan_endUse_66 C N β post u5.1 u5.2 _ _ _ hP hD hS (lv_sub hl [1] rfl) h
    · replace h := h.2 c1
      refine lv_aload_n hx hb d_Plan_endUse_14 rfl (lv_at hl 0 rfl) ?_
      refine va_get (D := D) (ci := 2) (v := .ref (gP 2)) (C := R_Plan) (T := F_Plan) (N := 6) hx hb hts in_Plan hown hK hP 0 rfl rfl 1 (by decide) (hts _ kw_186) (fun _ h9 => h9) rfl d_Plan_endUse_15 ?_
      refine lv_iload hx hb d_Plan_endUse_18 (lv_at hl 4 rfl) ?_
      obtain ⟨hi7, h⟩ := h
      refine va_iald hx hb hK hP 2 0 rfl rfl hi7 d_Plan_endUse_20 ?_
      refine lv_aload_n hx hb d_Plan_endUse_21 rfl (lv_at hl 0 rfl) ?_
      refine va_get (D := D) (ci := 2) (v := .int (π 3 0)) (C := R_Plan) (T := F_Plan) (N := 6) hx hb hts in_Plan hown hK hP 0 rfl rfl 3 (by decide) (hts _ kw_191) (fun _ h9 => h9) rfl d_Plan_endUse_22 ?_
      refine lv_icmp_ne (tgt := 38) hx hb d_Plan_endUse_25 (by decide) (fun c8 => ?_) (fun c8 => ?_)
      · replace h := h.1 c8
        exact t_Plan_endUse_38 C N β post (wp_Plan_endUse_5 N β post n) ih x2 x3 x4 π ρ _ _ _ hP hD hS (lv_sub hl [0, 1, 2, 3, 4] rfl) h
      · replace h := h.2 c8
        refine lv_iload_n hx hb d_Plan_endUse_28 rfl (lv_at hl 3 rfl) ?_
        refine lv_aload_n hx hb d_Plan_endUse_29 rfl (lv_at hl 0 rfl) ?_
        refine va_get (D := D) (ci := 2) (v := .ref (gP 3)) (C := R_Plan) (T := F_Plan) (N := 6) hx hb hts in_Plan hown hK hP 0 rfl rfl 2 (by decide) (hts _ kw_188) (fun _ h9 => h9) rfl d_Plan_endUse_30 ?_
        refine lv_iload hx hb d_Plan_endUse_33 (lv_at hl 4 rfl) ?_
        obtain ⟨hi9, h⟩ := h
        refine va_iald hx hb hK hP 3 0 rfl rfl hi9 d_Plan_endUse_35 ?_
        refine lv_iadd hx hb d_Plan_endUse_36 ?_
        refine lv_istore_n (lv' := [(3, .int (x3 + (π 2 (Int32.toNatClampNeg x4)))), (0, .ref (gP 0)), (1, .ref (gB 0)), (2, .int x2), (4, .int x4)]) hx hb d_Plan_endUse_37 rfl hl (by decide) rfl (fun ls hl => ?_)
        exact t_Plan_endUse_38 C N β post (wp_Plan_endUse_5 N β post n) ih x2 (x3 + (π 2 (Int32.toNatClampNeg x4))) x4 π ρ _ _ _ hP hD hS (lv_sub hl [1, 2, 3, 0, 4] rfl) h
set_option maxHeartbeats 4000000 in
set_option maxRecDepth 100000 in
theorem m_Plan_endUse {l : Launch} {D : va_G} {k : Nat → ClassId} (N : Nat) (gP : Nat → Nat) (gR : Nat → Nat) (gB : Nat → Nat) (π : St) (ρ : Nat → Int64) (β : St) (x2 : Int32) (post : ((St) × (Nat → Int64)) → Prop) (h : wp_Plan_endUse N  π ρ β x2 post) : Cv l D k y_Plan_endUse b_Plan_endUse 5 rm_Plan_endUse [.ref (gP 0), .ref (gB 0), .int x2] (wPlan k gP π (gR 0) ++ (wRem k gR ρ ++ (wBasket k gB β))) (fun u : (St) × (Nat → Int64) => wPlan k gP u.1 (gR 0) ++ (wRem k gR u.2 ++ (wBasket k gB β))) post := by
  refine Cv.of (by decide) (Nat.le_of_ble_eq_true rfl) ?_
  intro p e s m below meth c A H locs ls C hP hD hS hl
  obtain ⟨hx, hb, hr, hlk, hml, hown, hts, hK, hA⟩ := id C
  replace hl : lv_has ls 5 [(0, .ref (gP 0)), (1, .ref (gB 0)), (2, .int x2)] := hl
  unfold wp_Plan_endUse at h
  refine lv_iconst (v := 0) hx hb d_Plan_endUse_0 (by decide) ?_
  refine lv_istore_n (lv' := [(3, .int 0), (0, .ref (gP 0)), (1, .ref (gB 0)), (2, .int x2)]) hx hb d_Plan_endUse_1 rfl hl (by decide) rfl (fun ls hl => ?_)
  refine lv_iconst (v := 0) hx hb d_Plan_endUse_2 (by decide) ?_
  refine lv_istore (lv' := [(4, .int 0), (3, .int 0), (0, .ref (gP 0)), (1, .ref (gB 0)), (2, .int x2)]) hx hb d_Plan_endUse_3 hl (by decide) rfl (fun ls hl => ?_)
  exact t_Plan_endUse_5 C N β post   N x2 0 0 π ρ _ _ _ hP hD hS (lv_sub hl [2, 3, 4, 1, 0] rfl) h
set_option maxHeartbeats 4000000 in
set_option maxRecDepth 100000 in
theorem m_Uses_firstWith {l : Launch} {D : va_G} {k : Nat → ClassId} (N : Nat) (gU : Nat → Nat) (υ : St) (x1 : Int32) (post : Int32 → (Unit) → Prop) (h : wp_Uses_firstWith N  υ x1 post) : Ci l D k y_Uses_firstWith b_Uses_firstWith 2 .int rm_Uses_firstWith [.ref (gU 0), .int x1] (wUses k gU υ) (fun u : Unit => wUses k gU υ) post := by
  refine Ci.of (by decide) (Nat.le_of_ble_eq_true rfl) ?_
  intro p e s m below meth c A H locs ls C hP hD hS hl
  obtain ⟨hx, hb, hr, hlk, hml, hown, hts, hK, hA⟩ := id C
  replace hl : lv_has ls 2 [(0, .ref (gU 0)), (1, .int x1)] := hl
  unfold wp_Uses_firstWith at h
  refine lv_aload_n hx hb d_Uses_firstWith_0 rfl (lv_at hl 0 rfl) ?_
  refine va_get (D := D) (ci := 6) (v := .ref (gU 5)) (C := R_Uses) (T := F_Uses) (N := 10) hx hb hts in_Uses hown hK hP 0 rfl rfl 4 (by decide) (hts _ kw_131) (fun _ h9 => h9) rfl d_Uses_firstWith_1 ?_
  refine lv_iload_n hx hb d_Uses_firstWith_4 rfl (lv_at hl 1 rfl) ?_
  obtain ⟨hi1, h⟩ := h
  refine va_iald hx hb hK hP 5 0 rfl rfl hi1 d_Uses_firstWith_5 ?_
  exact ret_i (u := ()) (wf := (fun u : Unit => wUses k gU υ)) C hP hD hS (Nat.zero_le _) (Nat.zero_le _) h d_Uses_firstWith_6
set_option maxHeartbeats 4000000 in
set_option maxRecDepth 100000 in
theorem t_Uses_has_16 {p : Program} {l : Launch} {e : Env} {s : State} {m : MethodId} {args : Array Value} {below : List Frame} {meth : Method} {c : Code} {A : Nat → Prop} {D : va_G} {k : Nat → ClassId} {gU : Nat → Nat} (C : Cx p s m args meth c D k "PromotionTill$Uses" b_Uses_has 2 (some .boolean) A) (N : Nat) (υ : St) (post : Int32 → (Unit) → Prop) :
    ∀  (H : Heap) (locs : List Loc) (ls : Array Slot), va_P D CL (wUses k gU υ) H → va_D A (wUses k gU υ) → va_S A s.heap H locs → lv_has ls 2 [] → wp_Uses_has_16 N υ post  → W p l e rm_Uses_has s m args below meth c H locs 0 0 (MQ below (va_Qi post (fun (u : Unit) t => va_P D CL (wUses k gU υ) t.heap ∧ va_D A (wUses k gU υ)) A) args s rm_Uses_has.cells rm_Uses_has.slots A) (F0 m 16 ls []) := by
  obtain ⟨hx, hb, hr, hlk, hml, hown, hts, hK, hA⟩ := id C
  intro  H locs ls hP hD hS hl h
  unfold wp_Uses_has_16 at h
  refine lv_iconst (v := 0) hx hb d_Uses_has_16 (by decide) ?_
  exact ret_z (u := ()) (wf := (fun u : Unit => wUses k gU υ)) C rfl hP hD hS (Nat.zero_le _) (Nat.zero_le _) h d_Uses_has_17
set_option maxHeartbeats 4000000 in
set_option maxRecDepth 100000 in
theorem m_Uses_has {l : Launch} {D : va_G} {k : Nat → ClassId} (N : Nat) (gU : Nat → Nat) (υ : St) (x1 : Int32) (post : Int32 → (Unit) → Prop) (h : wp_Uses_has N  υ x1 post) : Ci l D k y_Uses_has b_Uses_has 2 .boolean rm_Uses_has [.ref (gU 0), .int x1] (wUses k gU υ) (fun u : Unit => wUses k gU υ) post := by
  refine Ci.of (by decide) (Nat.le_of_ble_eq_true rfl) ?_
  intro p e s m below meth c A H locs ls C hP hD hS hl
  obtain ⟨hx, hb, hr, hlk, hml, hown, hts, hK, hA⟩ := id C
  replace hl : lv_has ls 2 [(0, .ref (gU 0)), (1, .int x1)] := hl
  unfold wp_Uses_has at h
  refine lv_iload_n hx hb d_Uses_has_0 rfl (lv_at hl 1 rfl) ?_
  refine lv_if_lt (tgt := 16) hx hb d_Uses_has_1 (by decide) (fun c1 => ?_) (fun c1 => ?_)
  · replace h := h.1 c1
    exact t_Uses_has_16 C N υ post  _ _ _ hP hD hS (lv_sub hl [] rfl) h
  · replace h := h.2 c1
    refine lv_iload_n hx hb d_Uses_has_4 rfl (lv_at hl 1 rfl) ?_
    refine lv_aload_n hx hb d_Uses_has_5 rfl (lv_at hl 0 rfl) ?_
    refine va_get (D := D) (ci := 6) (v := .int (υ 9 0)) (C := R_Uses) (T := F_Uses) (N := 10) hx hb hts in_Uses hown hK hP 0 rfl rfl 9 (by decide) (hts _ kw_136) (fun _ h9 => h9) rfl d_Uses_has_6 ?_
    refine lv_icmp_ge (tgt := 16) hx hb d_Uses_has_9 (by decide) (fun c2 => ?_) (fun c2 => ?_)
    · replace h := h.1 c2
      exact t_Uses_has_16 C N υ post  _ _ _ hP hD hS (lv_sub hl [] rfl) h
    · replace h := h.2 c2
      refine lv_iconst (v := 1) hx hb d_Uses_has_12 (by decide) ?_
      refine lv_goto (tgt := 17) hx hb d_Uses_has_13 (by decide) ?_
      exact ret_z (u := ()) (wf := (fun u : Unit => wUses k gU υ)) C rfl hP hD hS (Nat.zero_le _) (Nat.zero_le _) h d_Uses_has_17
set_option maxHeartbeats 4000000 in
set_option maxRecDepth 100000 in
theorem m_Uses_nextOf {l : Launch} {D : va_G} {k : Nat → ClassId} (N : Nat) (gU : Nat → Nat) (υ : St) (x1 : Int32) (post : Int32 → (Unit) → Prop) (h : wp_Uses_nextOf N  υ x1 post) : Ci l D k y_Uses_nextOf b_Uses_nextOf 2 .int rm_Uses_nextOf [.ref (gU 0), .int x1] (wUses k gU υ) (fun u : Unit => wUses k gU υ) post := by
  refine Ci.of (by decide) (Nat.le_of_ble_eq_true rfl) ?_
  intro p e s m below meth c A H locs ls C hP hD hS hl
  obtain ⟨hx, hb, hr, hlk, hml, hown, hts, hK, hA⟩ := id C
  replace hl : lv_has ls 2 [(0, .ref (gU 0)), (1, .int x1)] := hl
  unfold wp_Uses_nextOf at h
  refine lv_aload_n hx hb d_Uses_nextOf_0 rfl (lv_at hl 0 rfl) ?_
  refine va_get (D := D) (ci := 6) (v := .ref (gU 4)) (C := R_Uses) (T := F_Uses) (N := 10) hx hb hts in_Uses hown hK hP 0 rfl rfl 3 (by decide) (hts _ kw_130) (fun _ h9 => h9) rfl d_Uses_nextOf_1 ?_
  refine lv_iload_n hx hb d_Uses_nextOf_4 rfl (lv_at hl 1 rfl) ?_
  obtain ⟨hi1, h⟩ := h
  refine va_iald hx hb hK hP 4 0 rfl rfl hi1 d_Uses_nextOf_5 ?_
  exact ret_i (u := ()) (wf := (fun u : Unit => wUses k gU υ)) C hP hD hS (Nat.zero_le _) (Nat.zero_le _) h d_Uses_nextOf_6
set_option maxHeartbeats 4000000 in
set_option maxRecDepth 100000 in
theorem m_Uses_offerOf {l : Launch} {D : va_G} {k : Nat → ClassId} (N : Nat) (gU : Nat → Nat) (υ : St) (x1 : Int32) (post : Int32 → (Unit) → Prop) (h : wp_Uses_offerOf N  υ x1 post) : Ci l D k y_Uses_offerOf b_Uses_offerOf 2 .int rm_Uses_offerOf [.ref (gU 0), .int x1] (wUses k gU υ) (fun u : Unit => wUses k gU υ) post := by
  refine Ci.of (by decide) (Nat.le_of_ble_eq_true rfl) ?_
  intro p e s m below meth c A H locs ls C hP hD hS hl
  obtain ⟨hx, hb, hr, hlk, hml, hown, hts, hK, hA⟩ := id C
  replace hl : lv_has ls 2 [(0, .ref (gU 0)), (1, .int x1)] := hl
  unfold wp_Uses_offerOf at h
  refine lv_aload_n hx hb d_Uses_offerOf_0 rfl (lv_at hl 0 rfl) ?_
  refine va_get (D := D) (ci := 6) (v := .ref (gU 1)) (C := R_Uses) (T := F_Uses) (N := 10) hx hb hts in_Uses hown hK hP 0 rfl rfl 0 (by decide) (hts _ kw_127) (fun _ h9 => h9) rfl d_Uses_offerOf_1 ?_
  refine lv_iload_n hx hb d_Uses_offerOf_4 rfl (lv_at hl 1 rfl) ?_
  obtain ⟨hi1, h⟩ := h
  refine va_iald hx hb hK hP 1 0 rfl rfl hi1 d_Uses_offerOf_5 ?_
  refine lv_bipush (v := 20) hx hb d_Uses_offerOf_6 (by decide) ?_
  refine lv_ishr hx hb d_Uses_offerOf_8 ?_
  refine lv_bipush (v := 15) hx hb d_Uses_offerOf_9 (by decide) ?_
  refine lv_iand hx hb d_Uses_offerOf_11 ?_
  exact ret_i (u := ()) (wf := (fun u : Unit => wUses k gU υ)) C hP hD hS (Nat.zero_le _) (Nat.zero_le _) h d_Uses_offerOf_12
set_option maxHeartbeats 4000000 in
set_option maxRecDepth 100000 in
theorem m_Uses_unitsOf {l : Launch} {D : va_G} {k : Nat → ClassId} (N : Nat) (gU : Nat → Nat) (υ : St) (x1 : Int32) (post : Int32 → (Unit) → Prop) (h : wp_Uses_unitsOf N  υ x1 post) : Ci l D k y_Uses_unitsOf b_Uses_unitsOf 2 .int rm_Uses_unitsOf [.ref (gU 0), .int x1] (wUses k gU υ) (fun u : Unit => wUses k gU υ) post := by
  refine Ci.of (by decide) (Nat.le_of_ble_eq_true rfl) ?_
  intro p e s m below meth c A H locs ls C hP hD hS hl
  obtain ⟨hx, hb, hr, hlk, hml, hown, hts, hK, hA⟩ := id C
  replace hl : lv_has ls 2 [(0, .ref (gU 0)), (1, .int x1)] := hl
  unfold wp_Uses_unitsOf at h
  refine lv_aload_n hx hb d_Uses_unitsOf_0 rfl (lv_at hl 0 rfl) ?_
  refine va_get (D := D) (ci := 6) (v := .ref (gU 1)) (C := R_Uses) (T := F_Uses) (N := 10) hx hb hts in_Uses hown hK hP 0 rfl rfl 0 (by decide) (hts _ kw_127) (fun _ h9 => h9) rfl d_Uses_unitsOf_1 ?_
  refine lv_iload_n hx hb d_Uses_unitsOf_4 rfl (lv_at hl 1 rfl) ?_
  obtain ⟨hi1, h⟩ := h
  refine va_iald hx hb hK hP 1 0 rfl rfl hi1 d_Uses_unitsOf_5 ?_
  refine lv_bipush (v := 16) hx hb d_Uses_unitsOf_6 (by decide) ?_
  refine lv_ishr hx hb d_Uses_unitsOf_8 ?_
  refine lv_bipush (v := 15) hx hb d_Uses_unitsOf_9 (by decide) ?_
  refine lv_iand hx hb d_Uses_unitsOf_11 ?_
  exact ret_i (u := ()) (wf := (fun u : Unit => wUses k gU υ)) C hP hD hS (Nat.zero_le _) (Nat.zero_le _) h d_Uses_unitsOf_12
set_option maxHeartbeats 4000000 in
set_option maxRecDepth 100000 in
theorem m_Uses_articleOf {l : Launch} {D : va_G} {k : Nat → ClassId} (N : Nat) (gU : Nat → Nat) (υ : St) (x1 : Int32) (x2 : Int32) (post : Int32 → (Unit) → Prop) (h : wp_Uses_articleOf N  υ x1 x2 post) : Ci l D k y_Uses_articleOf b_Uses_articleOf 3 .int rm_Uses_articleOf [.ref (gU 0), .int x1, .int x2] (wUses k gU υ) (fun u : Unit => wUses k gU υ) post := by
  refine Ci.of (by decide) (Nat.le_of_ble_eq_true rfl) ?_
  intro p e s m below meth c A H locs ls C hP hD hS hl
  obtain ⟨hx, hb, hr, hlk, hml, hown, hts, hK, hA⟩ := id C
  replace hl : lv_has ls 3 [(0, .ref (gU 0)), (1, .int x1), (2, .int x2)] := hl
  unfold wp_Uses_articleOf at h
  refine lv_aload_n hx hb d_Uses_articleOf_0 rfl (lv_at hl 0 rfl) ?_
  refine va_get (D := D) (ci := 6) (v := .ref (gU 1)) (C := R_Uses) (T := F_Uses) (N := 10) hx hb hts in_Uses hown hK hP 0 rfl rfl 0 (by decide) (hts _ kw_127) (fun _ h9 => h9) rfl d_Uses_articleOf_1 ?_
  refine lv_iload_n hx hb d_Uses_articleOf_4 rfl (lv_at hl 1 rfl) ?_
  obtain ⟨hi1, h⟩ := h
  refine va_iald hx hb hK hP 1 0 rfl rfl hi1 d_Uses_articleOf_5 ?_
  refine lv_iconst (v := 4) hx hb d_Uses_articleOf_6 (by decide) ?_
  refine lv_iload_n hx hb d_Uses_articleOf_7 rfl (lv_at hl 2 rfl) ?_
  refine lv_imul hx hb d_Uses_articleOf_8 ?_
  refine lv_ishr hx hb d_Uses_articleOf_9 ?_
  refine lv_bipush (v := 15) hx hb d_Uses_articleOf_10 (by decide) ?_
  refine lv_iand hx hb d_Uses_articleOf_12 ?_
  exact ret_i (u := ()) (wf := (fun u : Unit => wUses k gU υ)) C hP hD hS (Nat.zero_le _) (Nat.zero_le _) h d_Uses_articleOf_13
set_option maxHeartbeats 4000000 in
set_option maxRecDepth 100000 in
theorem m_Uses_savingOf {l : Launch} {D : va_G} {k : Nat → ClassId} (N : Nat) (gU : Nat → Nat) (υ : St) (x1 : Int32) (post : Int32 → (Unit) → Prop) (h : wp_Uses_savingOf N  υ x1 post) : Ci l D k y_Uses_savingOf b_Uses_savingOf 2 .int rm_Uses_savingOf [.ref (gU 0), .int x1] (wUses k gU υ) (fun u : Unit => wUses k gU υ) post := by
  refine Ci.of (by decide) (Nat.le_of_ble_eq_true rfl) ?_
  intro p e s m below meth c A H locs ls C hP hD hS hl
  obtain ⟨hx, hb, hr, hlk, hml, hown, hts, hK, hA⟩ := id C
  replace hl : lv_has ls 2 [(0, .ref (gU 0)), (1, .int x1)] := hl
  unfold wp_Uses_savingOf at h
  refine lv_aload_n hx hb d_Uses_savingOf_0 rfl (lv_at hl 0 rfl) ?_
  refine va_get (D := D) (ci := 6) (v := .ref (gU 2)) (C := R_Uses) (T := F_Uses) (N := 10) hx hb hts in_Uses hown hK hP 0 rfl rfl 1 (by decide) (hts _ kw_128) (fun _ h9 => h9) rfl d_Uses_savingOf_1 ?_
  refine lv_iload_n hx hb d_Uses_savingOf_4 rfl (lv_at hl 1 rfl) ?_
  obtain ⟨hi1, h⟩ := h
  refine va_iald hx hb hK hP 2 0 rfl rfl hi1 d_Uses_savingOf_5 ?_
  exact ret_i (u := ()) (wf := (fun u : Unit => wUses k gU υ)) C hP hD hS (Nat.zero_le _) (Nat.zero_le _) h d_Uses_savingOf_6
set_option maxHeartbeats 4000000 in
set_option maxRecDepth 100000 in
theorem m_Uses_stepOf {l : Launch} {D : va_G} {k : Nat → ClassId} (N : Nat) (gU : Nat → Nat) (υ : St) (x1 : Int32) (post : Int32 → (Unit) → Prop) (h : wp_Uses_stepOf N  υ x1 post) : Ci l D k y_Uses_stepOf b_Uses_stepOf 2 .int rm_Uses_stepOf [.ref (gU 0), .int x1] (wUses k gU υ) (fun u : Unit => wUses k gU υ) post := by
  refine Ci.of (by decide) (Nat.le_of_ble_eq_true rfl) ?_
  intro p e s m below meth c A H locs ls C hP hD hS hl
  obtain ⟨hx, hb, hr, hlk, hml, hown, hts, hK, hA⟩ := id C
  replace hl : lv_has ls 2 [(0, .ref (gU 0)), (1, .int x1)] := hl
  unfold wp_Uses_stepOf at h
  refine lv_aload_n hx hb d_Uses_stepOf_0 rfl (lv_at hl 0 rfl) ?_
  refine va_get (D := D) (ci := 6) (v := .ref (gU 3)) (C := R_Uses) (T := F_Uses) (N := 10) hx hb hts in_Uses hown hK hP 0 rfl rfl 2 (by decide) (hts _ kw_129) (fun _ h9 => h9) rfl d_Uses_stepOf_1 ?_
  refine lv_iload_n hx hb d_Uses_stepOf_4 rfl (lv_at hl 1 rfl) ?_
  obtain ⟨hi1, h⟩ := h
  refine va_iald hx hb hK hP 3 0 rfl rfl hi1 d_Uses_stepOf_5 ?_
  exact ret_i (u := ()) (wf := (fun u : Unit => wUses k gU υ)) C hP hD hS (Nat.zero_le _) (Nat.zero_le _) h d_Uses_stepOf_6
set_option maxHeartbeats 4000000 in
set_option maxRecDepth 100000 in
theorem t_Uses_packTaken_17 {p : Program} {l : Launch} {e : Env} {s : State} {m : MethodId} {args : Array Value} {below : List Frame} {meth : Method} {c : Code} {A : Nat → Prop} {D : va_G} {k : Nat → ClassId} {gU : Nat → Nat} (C : Cx p s m args meth c D k "PromotionTill$Uses" b_Uses_packTaken 6 (some .int) A) (N : Nat) (υ : St) (post : Int32 → (Unit) → Prop) (K_7 : Int32 → Int32 → Int32 → Int32 → Prop) (hK_7 : ∀ (x1 : Int32) (x2 : Int32) (x3 : Int32) (x4 : Int32) (H : Heap) (locs : List Loc) (ls : Array Slot), va_P D CL (wUses k gU υ) H → va_D A (wUses k gU υ) → va_S A s.heap H locs → lv_has ls 6 [(0, .ref (gU 0)), (1, .int x1), (2, .int x2), (3, .int x3), (4, .int x4)] → K_7 x1 x2 x3 x4 → W p l e rm_Uses_packTaken s m args below meth c H locs 0 0 (MQ below (va_Qi post (fun (u : Unit) t => va_P D CL (wUses k gU υ) t.heap ∧ va_D A (wUses k gU υ)) A) args s rm_Uses_packTaken.cells rm_Uses_packTaken.slots A) (F0 m 7 ls [])) :
    ∀ (n : Nat) (x1 : Int32) (x2 : Int32) (x3 : Int32) (x4 : Int32) (x5 : Int32) (H : Heap) (locs : List Loc) (ls : Array Slot), va_P D CL (wUses k gU υ) H → va_D A (wUses k gU υ) → va_S A s.heap H locs → lv_has ls 6 [(0, .ref (gU 0)), (1, .int x1), (2, .int x2), (3, .int x3), (4, .int x4), (5, .int x5)] → wp_Uses_packTaken_17 N υ post K_7 n x1 x2 x3 x4 x5 → W p l e rm_Uses_packTaken s m args below meth c H locs 0 0 (MQ below (va_Qi post (fun (u : Unit) t => va_P D CL (wUses k gU υ) t.heap ∧ va_D A (wUses k gU υ)) A) args s rm_Uses_packTaken.cells rm_Uses_packTaken.slots A) (F0 m 17 ls []) := by
  obtain ⟨hx, hb, hr, hlk, hml, hown, hts, hK, hA⟩ := id C
  intro n
  induction n with
  | zero =>
    intro x1 x2 x3 x4 x5 H locs ls hP hD hS hl h
    exact absurd h (by simp [wp_Uses_packTaken_17])
  | succ n ih =>
    intro x1 x2 x3 x4 x5 H locs ls hP hD hS hl h
    rw [wp_Uses_packTaken_17] at h
    refine lv_iload hx hb d_Uses_packTaken_17 (lv_at hl 5 rfl) ?_
    refine lv_aload_n hx hb d_Uses_packTaken_19 rfl (lv_at hl 0 rfl) ?_
    refine va_get (D := D) (ci := 6) (v := .ref (gU 7)) (C := R_Uses) (T := F_Uses) (N := 10) hx hb hts in_Uses hown hK hP 0 rfl rfl 6 (by decide) (hts _ kw_133) (fun _ h9 => h9) rfl d_Uses_packTaken_20 ?_
    refine lv_iload hx hb d_Uses_packTaken_23 (lv_at hl 4 rfl) ?_
    obtain ⟨hi2, h⟩ := h
    refine va_iald hx hb hK hP 7 0 rfl rfl hi2 d_Uses_packTaken_25 ?_
    refine lv_icmp_ge (tgt := 47) hx hb d_Uses_packTaken_26 (by decide) (fun c3 => ?_) (fun c3 => ?_)
    · replace h := h.1 c3
      refine lv_iinc (v := x4 + 1) (lv' := [(4, .int (x4 + 1)), (0, .ref (gU 0)), (1, .int x1), (2, .int x2), (3, .int x3), (5, .int x5)]) hx hb d_Uses_packTaken_47 hl (k := 4) rfl rfl (by decide) rfl (fun ls hl => ?_)
      refine lv_goto (tgt := 7) hx hb d_Uses_packTaken_50 (by decide) ?_
      exact hK_7 x1 x2 x3 (x4 + 1) _ _ _ hP hD hS (lv_sub hl [1, 2, 3, 4, 0] rfl) h
    · replace h := h.2 c3
      refine lv_iload_n hx hb d_Uses_packTaken_29 rfl (lv_at hl 3 rfl) ?_
      refine lv_iload hx hb d_Uses_packTaken_30 (lv_at hl 4 rfl) ?_
      refine lv_iconst (v := 4) hx hb d_Uses_packTaken_32 (by decide) ?_
      refine lv_iload_n hx hb d_Uses_packTaken_33 rfl (lv_at hl 2 rfl) ?_
      refine lv_imul hx hb d_Uses_packTaken_34 ?_
      refine lv_ishl hx hb d_Uses_packTaken_35 ?_
      refine lv_ior hx hb d_Uses_packTaken_36 ?_
      refine lv_istore_n (lv' := [(3, .int (x3 ||| (x4 <<< ((4 * x2) &&& 31)))), (0, .ref (gU 0)), (1, .int x1), (2, .int x2), (4, .int x4), (5, .int x5)]) hx hb d_Uses_packTaken_37 rfl hl (by decide) rfl (fun ls hl => ?_)
      refine lv_iinc (v := x2 + 1) (lv' := [(2, .int (x2 + 1)), (3, .int (x3 ||| (x4 <<< ((4 * x2) &&& 31)))), (0, .ref (gU 0)), (1, .int x1), (4, .int x4), (5, .int x5)]) hx hb d_Uses_packTaken_38 hl (k := 3) rfl rfl (by decide) rfl (fun ls hl => ?_)
      refine lv_iinc (v := x5 + 1) (lv' := [(5, .int (x5 + 1)), (2, .int (x2 + 1)), (3, .int (x3 ||| (x4 <<< ((4 * x2) &&& 31)))), (0, .ref (gU 0)), (1, .int x1), (4, .int x4)]) hx hb d_Uses_packTaken_41 hl (k := 5) rfl rfl (by decide) rfl (fun ls hl => ?_)
      refine lv_goto (tgt := 17) hx hb d_Uses_packTaken_44 (by decide) ?_
      exact ih x1 (x2 + 1) (x3 ||| (x4 <<< ((4 * x2) &&& 31))) x4 (x5 + 1) _ _ _ hP hD hS (lv_sub hl [3, 4, 1, 2, 5, 0] rfl) h
set_option maxHeartbeats 4000000 in
set_option maxRecDepth 100000 in
theorem t_Uses_packTaken_7 {p : Program} {l : Launch} {e : Env} {s : State} {m : MethodId} {args : Array Value} {below : List Frame} {meth : Method} {c : Code} {A : Nat → Prop} {D : va_G} {k : Nat → ClassId} {gU : Nat → Nat} (C : Cx p s m args meth c D k "PromotionTill$Uses" b_Uses_packTaken 6 (some .int) A) (N : Nat) (υ : St) (post : Int32 → (Unit) → Prop) :
    ∀ (n : Nat) (x1 : Int32) (x2 : Int32) (x3 : Int32) (x4 : Int32) (H : Heap) (locs : List Loc) (ls : Array Slot), va_P D CL (wUses k gU υ) H → va_D A (wUses k gU υ) → va_S A s.heap H locs → lv_has ls 6 [(0, .ref (gU 0)), (1, .int x1), (2, .int x2), (3, .int x3), (4, .int x4)] → wp_Uses_packTaken_7 N υ post n x1 x2 x3 x4 → W p l e rm_Uses_packTaken s m args below meth c H locs 0 0 (MQ below (va_Qi post (fun (u : Unit) t => va_P D CL (wUses k gU υ) t.heap ∧ va_D A (wUses k gU υ)) A) args s rm_Uses_packTaken.cells rm_Uses_packTaken.slots A) (F0 m 7 ls []) := by
  obtain ⟨hx, hb, hr, hlk, hml, hown, hts, hK, hA⟩ := id C
  intro n
  induction n with
  | zero =>
    intro x1 x2 x3 x4 H locs ls hP hD hS hl h
    exact absurd h (by simp [wp_Uses_packTaken_7])
  | succ n ih =>
    intro x1 x2 x3 x4 H locs ls hP hD hS hl h
    rw [wp_Uses_packTaken_7] at h
    refine lv_iload hx hb d_Uses_packTaken_7 (lv_at hl 4 rfl) ?_
    refine lv_bipush (v := 12) hx hb d_Uses_packTaken_9 (by decide) ?_
    refine lv_icmp_ge (tgt := 53) hx hb d_Uses_packTaken_11 (by decide) (fun c1 => ?_) (fun c1 => ?_)
    · replace h := h.1 c1
      refine lv_iload_n hx hb d_Uses_packTaken_53 rfl (lv_at hl 3 rfl) ?_
      refine lv_iload_n hx hb d_Uses_packTaken_54 rfl (lv_at hl 2 rfl) ?_
      refine lv_bipush (v := 16) hx hb d_Uses_packTaken_55 (by decide) ?_
      refine lv_ishl hx hb d_Uses_packTaken_57 ?_
      refine lv_ior hx hb d_Uses_packTaken_58 ?_
      refine lv_iload_n hx hb d_Uses_packTaken_59 rfl (lv_at hl 1 rfl) ?_
      refine lv_bipush (v := 20) hx hb d_Uses_packTaken_60 (by decide) ?_
      refine lv_ishl hx hb d_Uses_packTaken_62 ?_
      refine lv_ior hx hb d_Uses_packTaken_63 ?_
      exact ret_i (u := ()) (wf := (fun u : Unit => wUses k gU υ)) C hP hD hS (Nat.zero_le _) (Nat.zero_le _) h d_Uses_packTaken_64
    · replace h := h.2 c1
      refine lv_iconst (v := 0) hx hb d_Uses_packTaken_14 (by decide) ?_
      refine lv_istore (lv' := [(5, .int 0), (0, .ref (gU 0)), (1, .int x1), (2, .int x2), (3, .int x3), (4, .int x4)]) hx hb d_Uses_packTaken_15 hl (by decide) rfl (fun ls hl => ?_)
      exact t_Uses_packTaken_17 C N υ post (wp_Uses_packTaken_7 N υ post n) ih N x1 x2 x3 x4 0 _ _ _ hP hD hS (lv_sub hl [1, 2, 3, 4, 5, 0] rfl) h
set_option maxHeartbeats 4000000 in
set_option maxRecDepth 100000 in
theorem m_Uses_packTaken {l : Launch} {D : va_G} {k : Nat → ClassId} (N : Nat) (gU : Nat → Nat) (υ : St) (x1 : Int32) (post : Int32 → (Unit) → Prop) (h : wp_Uses_packTaken N  υ x1 post) : Ci l D k y_Uses_packTaken b_Uses_packTaken 6 .int rm_Uses_packTaken [.ref (gU 0), .int x1] (wUses k gU υ) (fun u : Unit => wUses k gU υ) post := by
  refine Ci.of (by decide) (Nat.le_of_ble_eq_true rfl) ?_
  intro p e s m below meth c A H locs ls C hP hD hS hl
  obtain ⟨hx, hb, hr, hlk, hml, hown, hts, hK, hA⟩ := id C
  replace hl : lv_has ls 6 [(0, .ref (gU 0)), (1, .int x1)] := hl
  unfold wp_Uses_packTaken at h
  refine lv_iconst (v := 0) hx hb d_Uses_packTaken_0 (by decide) ?_
  refine lv_istore_n (lv' := [(2, .int 0), (0, .ref (gU 0)), (1, .int x1)]) hx hb d_Uses_packTaken_1 rfl hl (by decide) rfl (fun ls hl => ?_)
  refine lv_iconst (v := 0) hx hb d_Uses_packTaken_2 (by decide) ?_
  refine lv_istore_n (lv' := [(3, .int 0), (2, .int 0), (0, .ref (gU 0)), (1, .int x1)]) hx hb d_Uses_packTaken_3 rfl hl (by decide) rfl (fun ls hl => ?_)
  refine lv_iconst (v := 0) hx hb d_Uses_packTaken_4 (by decide) ?_
  refine lv_istore (lv' := [(4, .int 0), (3, .int 0), (2, .int 0), (0, .ref (gU 0)), (1, .int x1)]) hx hb d_Uses_packTaken_5 hl (by decide) rfl (fun ls hl => ?_)
  exact t_Uses_packTaken_7 C N υ post   N x1 0 0 0 _ _ _ hP hD hS (lv_sub hl [3, 4, 2, 1, 0] rfl) h
set_option maxHeartbeats 4000000 in
set_option maxRecDepth 100000 in
theorem t_Uses_isNew_24 {p : Program} {l : Launch} {e : Env} {s : State} {m : MethodId} {args : Array Value} {below : List Frame} {meth : Method} {c : Code} {A : Nat → Prop} {D : va_G} {k : Nat → ClassId} {gU : Nat → Nat} (C : Cx p s m args meth c D k "PromotionTill$Uses" b_Uses_isNew 2 (some .boolean) A) (N : Nat) (post : Int32 → ((St)) → Prop) :
    ∀ (υ : (St)) (H : Heap) (locs : List Loc) (ls : Array Slot), va_P D CL (wUses k gU υ) H → va_D A (wUses k gU υ) → va_S A s.heap H locs → lv_has ls 2 [] → wp_Uses_isNew_24 N post υ → W p l e rm_Uses_isNew s m args below meth c H locs 0 0 (MQ below (va_Qi post (fun (u : (St)) t => va_P D CL (wUses k gU u) t.heap ∧ va_D A (wUses k gU u)) A) args s rm_Uses_isNew.cells rm_Uses_isNew.slots A) (F0 m 24 ls []) := by
  obtain ⟨hx, hb, hr, hlk, hml, hown, hts, hK, hA⟩ := id C
  intro υ H locs ls hP hD hS hl h
  unfold wp_Uses_isNew_24 at h
  refine lv_iconst (v := 0) hx hb d_Uses_isNew_24 (by decide) ?_
  exact ret_z (u := υ) (wf := (fun u : (St) => wUses k gU u)) C rfl hP hD hS (Nat.zero_le _) (Nat.zero_le _) h d_Uses_isNew_25
set_option maxHeartbeats 4000000 in
set_option maxRecDepth 100000 in
theorem m_Uses_isNew {l : Launch} {D : va_G} {k : Nat → ClassId} (N : Nat) (gU : Nat → Nat) (υ : St) (x1 : Int32) (post : Int32 → ((St)) → Prop) (h : wp_Uses_isNew N  υ x1 post) : Ci l D k y_Uses_isNew b_Uses_isNew 2 .boolean rm_Uses_isNew [.ref (gU 0), .int x1] (wUses k gU υ) (fun u : (St) => wUses k gU u) post := by
  refine Ci.of (by decide) (Nat.le_of_ble_eq_true rfl) ?_
  intro p e s m below meth c A H locs ls C hP hD hS hl
  obtain ⟨hx, hb, hr, hlk, hml, hown, hts, hK, hA⟩ := id C
  replace hl : lv_has ls 2 [(0, .ref (gU 0)), (1, .int x1)] := hl
  unfold wp_Uses_isNew at h
  refine lv_iload_n hx hb d_Uses_isNew_0 rfl (lv_at hl 1 rfl) ?_
  refine lv_if_lt (tgt := 24) hx hb d_Uses_isNew_1 (by decide) (fun c1 => ?_) (fun c1 => ?_)
  · replace h := h.1 c1
    exact t_Uses_isNew_24 C N post υ _ _ _ hP hD hS (lv_sub hl [] rfl) h
  · replace h := h.2 c1
    refine lv_iload_n hx hb d_Uses_isNew_4 rfl (lv_at hl 1 rfl) ?_
    refine lv_sipush (v := 1024) hx hb d_Uses_isNew_5 (by decide) ?_
    refine lv_icmp_ge (tgt := 24) hx hb d_Uses_isNew_8 (by decide) (fun c2 => ?_) (fun c2 => ?_)
    · replace h := h.1 c2
      exact t_Uses_isNew_24 C N post υ _ _ _ hP hD hS (lv_sub hl [] rfl) h
    · replace h := h.2 c2
      refine lv_aload_n hx hb d_Uses_isNew_11 rfl (lv_at hl 0 rfl) ?_
      refine va_get (D := D) (ci := 6) (v := .ref (gU 8)) (C := R_Uses) (T := F_Uses) (N := 10) hx hb hts in_Uses hown hK hP 0 rfl rfl 7 (by decide) (hts _ kw_134) (fun _ h9 => h9) rfl d_Uses_isNew_12 ?_
      refine lv_iload_n hx hb d_Uses_isNew_15 rfl (lv_at hl 1 rfl) ?_
      obtain ⟨hi3, h⟩ := h
      refine va_iald hx hb hK hP 8 0 rfl rfl hi3 d_Uses_isNew_16 ?_
      refine lv_aload_n hx hb d_Uses_isNew_17 rfl (lv_at hl 0 rfl) ?_
      refine va_get (D := D) (ci := 6) (v := .int (υ 8 0)) (C := R_Uses) (T := F_Uses) (N := 10) hx hb hts in_Uses hown hK hP 0 rfl rfl 8 (by decide) (hts _ kw_135) (fun _ h9 => h9) rfl d_Uses_isNew_18 ?_
      refine lv_icmp_ne (tgt := 26) hx hb d_Uses_isNew_21 (by decide) (fun c4 => ?_) (fun c4 => ?_)
      · replace h := h.1 c4
        refine lv_aload_n hx hb d_Uses_isNew_26 rfl (lv_at hl 0 rfl) ?_
        refine va_get (D := D) (ci := 6) (v := .ref (gU 8)) (C := R_Uses) (T := F_Uses) (N := 10) hx hb hts in_Uses hown hK hP 0 rfl rfl 7 (by decide) (hts _ kw_134) (fun _ h9 => h9) rfl d_Uses_isNew_27 ?_
        refine lv_iload_n hx hb d_Uses_isNew_30 rfl (lv_at hl 1 rfl) ?_
        refine lv_aload_n hx hb d_Uses_isNew_31 rfl (lv_at hl 0 rfl) ?_
        refine va_get (D := D) (ci := 6) (v := .int (υ 8 0)) (C := R_Uses) (T := F_Uses) (N := 10) hx hb hts in_Uses hown hK hP 0 rfl rfl 8 (by decide) (hts _ kw_135) (fun _ h9 => h9) rfl d_Uses_isNew_32 ?_
        obtain ⟨hi5, h⟩ := h
        refine va_iast hx hb hK hP hD hS 8 0 rfl rfl hi5 d_Uses_isNew_35 (fun H locs hP hD hS => ?_)
        obtain ⟨υ6, eυ6⟩ : ∃ z, z = s2 υ 7 (Int32.toNatClampNeg x1) (υ 8 0) := ⟨_, rfl⟩
        replace hP : va_P D CL (wUses k gU υ6) H := by rw [eυ6]; exact hP
        replace hD : va_D A (wUses k gU υ6) := by rw [eυ6]; exact hD
        replace h := h υ6 eυ6
        refine lv_iconst (v := 1) hx hb d_Uses_isNew_36 (by decide) ?_
        exact ret_z (u := υ6) (wf := (fun u : (St) => wUses k gU u)) C rfl hP hD hS (Nat.zero_le _) (Nat.zero_le _) h d_Uses_isNew_37
      · replace h := h.2 c4
        exact t_Uses_isNew_24 C N post υ _ _ _ hP hD hS (lv_sub hl [] rfl) h
set_option maxHeartbeats 4000000 in
set_option maxRecDepth 100000 in
theorem t_Uses_link_42 {p : Program} {l : Launch} {e : Env} {s : State} {m : MethodId} {args : Array Value} {below : List Frame} {meth : Method} {c : Code} {A : Nat → Prop} {D : va_G} {k : Nat → ClassId} {gU : Nat → Nat} (C : Cx p s m args meth c D k "PromotionTill$Uses" b_Uses_link 3 none A) (N : Nat) (post : ((St)) → Prop) :
    ∀ (x1 : Int32) (υ : (St)) (H : Heap) (locs : List Loc) (ls : Array Slot), va_P D CL (wUses k gU υ) H → va_D A (wUses k gU υ) → va_S A s.heap H locs → lv_has ls 3 [(0, .ref (gU 0)), (1, .int x1)] → wp_Uses_link_42 N post x1 υ → W p l e rm_Uses_link s m args below meth c H locs 0 0 (MQ below (va_Qv post (fun (u : (St)) t => va_P D CL (wUses k gU u) t.heap ∧ va_D A (wUses k gU u)) A) args s rm_Uses_link.cells rm_Uses_link.slots A) (F0 m 42 ls []) := by
  obtain ⟨hx, hb, hr, hlk, hml, hown, hts, hK, hA⟩ := id C
  intro x1 υ H locs ls hP hD hS hl h
  unfold wp_Uses_link_42 at h
  refine lv_aload_n hx hb d_Uses_link_42 rfl (lv_at hl 0 rfl) ?_
  refine va_get (D := D) (ci := 6) (v := .ref (gU 6)) (C := R_Uses) (T := F_Uses) (N := 10) hx hb hts in_Uses hown hK hP 0 rfl rfl 5 (by decide) (hts _ kw_132) (fun _ h9 => h9) rfl d_Uses_link_43 ?_
  refine lv_iload_n hx hb d_Uses_link_46 rfl (lv_at hl 1 rfl) ?_
  refine lv_aload_n hx hb d_Uses_link_47 rfl (lv_at hl 0 rfl) ?_
  refine va_get (D := D) (ci := 6) (v := .int (υ 9 0)) (C := R_Uses) (T := F_Uses) (N := 10) hx hb hts in_Uses hown hK hP 0 rfl rfl 9 (by decide) (hts _ kw_136) (fun _ h9 => h9) rfl d_Uses_link_48 ?_
  obtain ⟨hi8, h⟩ := h
  refine va_iast hx hb hK hP hD hS 6 0 rfl rfl hi8 d_Uses_link_51 (fun H locs hP hD hS => ?_)
  obtain ⟨υ9, eυ9⟩ : ∃ z, z = s2 υ 5 (Int32.toNatClampNeg x1) (υ 9 0) := ⟨_, rfl⟩
  replace hP : va_P D CL (wUses k gU υ9) H := by rw [eυ9]; exact hP
  replace hD : va_D A (wUses k gU υ9) := by rw [eυ9]; exact hD
  replace h := h υ9 eυ9
  refine lv_aload_n hx hb d_Uses_link_52 rfl (lv_at hl 0 rfl) ?_
  refine va_get (D := D) (ci := 6) (v := .ref (gU 4)) (C := R_Uses) (T := F_Uses) (N := 10) hx hb hts in_Uses hown hK hP 0 rfl rfl 3 (by decide) (hts _ kw_130) (fun _ h9 => h9) rfl d_Uses_link_53 ?_
  refine lv_aload_n hx hb d_Uses_link_56 rfl (lv_at hl 0 rfl) ?_
  refine va_get (D := D) (ci := 6) (v := .int (υ9 9 0)) (C := R_Uses) (T := F_Uses) (N := 10) hx hb hts in_Uses hown hK hP 0 rfl rfl 9 (by decide) (hts _ kw_136) (fun _ h9 => h9) rfl d_Uses_link_57 ?_
  refine lv_iconst (v := (-1)) hx hb d_Uses_link_60 (by decide) ?_
  obtain ⟨hi10, h⟩ := h
  refine va_iast hx hb hK hP hD hS 4 0 rfl rfl hi10 d_Uses_link_61 (fun H locs hP hD hS => ?_)
  obtain ⟨υ11, eυ11⟩ : ∃ z, z = s2 υ9 3 (Int32.toNatClampNeg (υ9 9 0)) (-1) := ⟨_, rfl⟩
  replace hP : va_P D CL (wUses k gU υ11) H := by rw [eυ11]; exact hP
  replace hD : va_D A (wUses k gU υ11) := by rw [eυ11]; exact hD
  replace h := h υ11 eυ11
  exact ret_v (u := υ11) (wf := (fun u : (St) => wUses k gU u)) C hP hD hS (Nat.zero_le _) (Nat.zero_le _) h d_Uses_link_62
set_option maxHeartbeats 4000000 in
set_option maxRecDepth 100000 in
theorem m_Uses_link {l : Launch} {D : va_G} {k : Nat → ClassId} (N : Nat) (gU : Nat → Nat) (υ : St) (x1 : Int32) (post : ((St)) → Prop) (h : wp_Uses_link N  υ x1 post) : Cv l D k y_Uses_link b_Uses_link 3 rm_Uses_link [.ref (gU 0), .int x1] (wUses k gU υ) (fun u : (St) => wUses k gU u) post := by
  refine Cv.of (by decide) (Nat.le_of_ble_eq_true rfl) ?_
  intro p e s m below meth c A H locs ls C hP hD hS hl
  obtain ⟨hx, hb, hr, hlk, hml, hown, hts, hK, hA⟩ := id C
  replace hl : lv_has ls 3 [(0, .ref (gU 0)), (1, .int x1)] := hl
  unfold wp_Uses_link at h
  refine lv_iload_n hx hb d_Uses_link_0 rfl (lv_at hl 1 rfl) ?_
  refine lv_bipush (v := 12) hx hb d_Uses_link_1 (by decide) ?_
  refine lv_icmp_lt (tgt := 7) hx hb d_Uses_link_3 (by decide) (fun c1 => ?_) (fun c1 => ?_)
  · replace h := h.1 c1
    refine lv_aload_n hx hb d_Uses_link_7 rfl (lv_at hl 0 rfl) ?_
    refine va_get (D := D) (ci := 6) (v := .ref (gU 6)) (C := R_Uses) (T := F_Uses) (N := 10) hx hb hts in_Uses hown hK hP 0 rfl rfl 5 (by decide) (hts _ kw_132) (fun _ h9 => h9) rfl d_Uses_link_8 ?_
    refine lv_iload_n hx hb d_Uses_link_11 rfl (lv_at hl 1 rfl) ?_
    obtain ⟨hi2, h⟩ := h
    refine va_iald hx hb hK hP 6 0 rfl rfl hi2 d_Uses_link_12 ?_
    refine lv_istore_n (lv' := [(2, .int (υ 5 (Int32.toNatClampNeg x1))), (0, .ref (gU 0)), (1, .int x1)]) hx hb d_Uses_link_13 rfl hl (by decide) rfl (fun ls hl => ?_)
    refine lv_iload_n hx hb d_Uses_link_14 rfl (lv_at hl 0 rfl) ?_
    refine lv_iconst (v := (-1)) hx hb d_Uses_link_15 (by decide) ?_
    refine lv_icmp_ne (tgt := 32) hx hb d_Uses_link_16 (by decide) (fun c3 => ?_) (fun c3 => ?_)
    · replace h := h.1 c3
      refine lv_aload_n hx hb d_Uses_link_32 rfl (lv_at hl 1 rfl) ?_
      refine va_get (D := D) (ci := 6) (v := .ref (gU 4)) (C := R_Uses) (T := F_Uses) (N := 10) hx hb hts in_Uses hown hK hP 0 rfl rfl 3 (by decide) (hts _ kw_130) (fun _ h9 => h9) rfl d_Uses_link_33 ?_
      refine lv_iload_n hx hb d_Uses_link_36 rfl (lv_at hl 0 rfl) ?_
      refine lv_aload_n hx hb d_Uses_link_37 rfl (lv_at hl 1 rfl) ?_
      refine va_get (D := D) (ci := 6) (v := .int (υ 9 0)) (C := R_Uses) (T := F_Uses) (N := 10) hx hb hts in_Uses hown hK hP 0 rfl rfl 9 (by decide) (hts _ kw_136) (fun _ h9 => h9) rfl d_Uses_link_38 ?_
      obtain ⟨hi4, h⟩ := h
      refine va_iast hx hb hK hP hD hS 4 0 rfl rfl hi4 d_Uses_link_41 (fun H locs hP hD hS => ?_)
      obtain ⟨υ5, eυ5⟩ : ∃ z, z = s2 υ 3 (Int32.toNatClampNeg (υ 5 (Int32.toNatClampNeg x1))) (υ 9 0) := ⟨_, rfl⟩
      replace hP : va_P D CL (wUses k gU υ5) H := by rw [eυ5]; exact hP
      replace hD : va_D A (wUses k gU υ5) := by rw [eυ5]; exact hD
      replace h := h υ5 eυ5
      exact t_Uses_link_42 C N post x1 υ5 _ _ _ hP hD hS (lv_sub hl [1, 2] rfl) h
    · replace h := h.2 c3
      refine lv_aload_n hx hb d_Uses_link_19 rfl (lv_at hl 1 rfl) ?_
      refine va_get (D := D) (ci := 6) (v := .ref (gU 5)) (C := R_Uses) (T := F_Uses) (N := 10) hx hb hts in_Uses hown hK hP 0 rfl rfl 4 (by decide) (hts _ kw_131) (fun _ h9 => h9) rfl d_Uses_link_20 ?_
      refine lv_iload_n hx hb d_Uses_link_23 rfl (lv_at hl 2 rfl) ?_
      refine lv_aload_n hx hb d_Uses_link_24 rfl (lv_at hl 1 rfl) ?_
      refine va_get (D := D) (ci := 6) (v := .int (υ 9 0)) (C := R_Uses) (T := F_Uses) (N := 10) hx hb hts in_Uses hown hK hP 0 rfl rfl 9 (by decide) (hts _ kw_136) (fun _ h9 => h9) rfl d_Uses_link_25 ?_
      obtain ⟨hi6, h⟩ := h
      refine va_iast hx hb hK hP hD hS 5 0 rfl rfl hi6 d_Uses_link_28 (fun H locs hP hD hS => ?_)
      obtain ⟨υ7, eυ7⟩ : ∃ z, z = s2 υ 4 (Int32.toNatClampNeg x1) (υ 9 0) := ⟨_, rfl⟩
      replace hP : va_P D CL (wUses k gU υ7) H := by rw [eυ7]; exact hP
      replace hD : va_D A (wUses k gU υ7) := by rw [eυ7]; exact hD
      replace h := h υ7 eυ7
      refine lv_goto (tgt := 42) hx hb d_Uses_link_29 (by decide) ?_
      exact t_Uses_link_42 C N post x1 υ7 _ _ _ hP hD hS (lv_sub hl [1, 2] rfl) h
  · replace h := h.2 c1
    exact ret_v (u := υ) (wf := (fun u : (St) => wUses k gU u)) C hP hD hS (Nat.zero_le _) (Nat.zero_le _) h d_Uses_link_6
set_option maxHeartbeats 4000000 in
set_option maxRecDepth 100000 in
theorem t_Planner_savedAt_20 {p : Program} {l : Launch} {e : Env} {s : State} {m : MethodId} {args : Array Value} {below : List Frame} {meth : Method} {c : Code} {A : Nat → Prop} {D : va_G} {k : Nat → ClassId} {gL : Nat → Nat} {gU : Nat → Nat} (C : Cx p s m args meth c D k "PromotionTill$Planner" b_Planner_savedAt 2 (some .int) A) (N : Nat) (κ : St) (υ : St) (post : Int32 → (Unit) → Prop) :
    ∀  (H : Heap) (locs : List Loc) (ls : Array Slot), va_P D CL (wPlanner k gL κ (gU 0) ++ (wUses k gU υ)) H → va_D A (wPlanner k gL κ (gU 0) ++ (wUses k gU υ)) → va_S A s.heap H locs → lv_has ls 2 [] → wp_Planner_savedAt_20 N κ υ post  → W p l e rm_Planner_savedAt s m args below meth c H locs 0 0 (MQ below (va_Qi post (fun (u : Unit) t => va_P D CL (wPlanner k gL κ (gU 0) ++ (wUses k gU υ)) t.heap ∧ va_D A (wPlanner k gL κ (gU 0) ++ (wUses k gU υ))) A) args s rm_Planner_savedAt.cells rm_Planner_savedAt.slots A) (F0 m 20 ls []) := by
  obtain ⟨hx, hb, hr, hlk, hml, hown, hts, hK, hA⟩ := id C
  intro  H locs ls hP hD hS hl h
  unfold wp_Planner_savedAt_20 at h
  refine lv_iconst (v := 0) hx hb d_Planner_savedAt_20 (by decide) ?_
  exact ret_i (u := ()) (wf := (fun u : Unit => wPlanner k gL κ (gU 0) ++ (wUses k gU υ))) C hP hD hS (Nat.zero_le _) (Nat.zero_le _) h d_Planner_savedAt_21
set_option maxHeartbeats 4000000 in
set_option maxRecDepth 100000 in
theorem m_Planner_savedAt {l : Launch} {D : va_G} {k : Nat → ClassId} (N : Nat) (gL : Nat → Nat) (gU : Nat → Nat) (κ : St) (υ : St) (x1 : Int32) (post : Int32 → (Unit) → Prop) (h : wp_Planner_savedAt N  κ υ x1 post) : Ci l D k y_Planner_savedAt b_Planner_savedAt 2 .int rm_Planner_savedAt [.ref (gL 0), .int x1] (wPlanner k gL κ (gU 0) ++ (wUses k gU υ)) (fun u : Unit => wPlanner k gL κ (gU 0) ++ (wUses k gU υ)) post := by
  refine Ci.of (by decide) (Nat.le_of_ble_eq_true rfl) ?_
  intro p e s m below meth c A H locs ls C hP hD hS hl
  obtain ⟨hx, hb, hr, hlk, hml, hown, hts, hK, hA⟩ := id C
  replace hl : lv_has ls 2 [(0, .ref (gL 0)), (1, .int x1)] := hl
  unfold wp_Planner_savedAt at h
  refine lv_iload_n hx hb d_Planner_savedAt_0 rfl (lv_at hl 1 rfl) ?_
  refine lv_if_lt (tgt := 20) hx hb d_Planner_savedAt_1 (by decide) (fun c1 => ?_) (fun c1 => ?_)
  · replace h := h.1 c1
    exact t_Planner_savedAt_20 C N κ υ post  _ _ _ hP hD hS (lv_sub hl [] rfl) h
  · replace h := h.2 c1
    refine lv_iload_n hx hb d_Planner_savedAt_4 rfl (lv_at hl 1 rfl) ?_
    refine lv_sipush (v := 3000) hx hb d_Planner_savedAt_5 (by decide) ?_
    refine lv_icmp_ge (tgt := 20) hx hb d_Planner_savedAt_8 (by decide) (fun c2 => ?_) (fun c2 => ?_)
    · replace h := h.1 c2
      exact t_Planner_savedAt_20 C N κ υ post  _ _ _ hP hD hS (lv_sub hl [] rfl) h
    · replace h := h.2 c2
      refine lv_aload_n hx hb d_Planner_savedAt_11 rfl (lv_at hl 0 rfl) ?_
      refine va_get (D := D) (ci := 3) (v := .ref (gL 4)) (C := R_Planner) (T := F_Planner) (N := 6) hx hb hts in_Planner hown hK hP 0 rfl rfl 3 (by decide) (hts _ kw_161) (fun _ h9 => h9) rfl d_Planner_savedAt_12 ?_
      refine lv_iload_n hx hb d_Planner_savedAt_15 rfl (lv_at hl 1 rfl) ?_
      obtain ⟨hi3, h⟩ := h
      refine va_iald hx hb hK hP 4 0 rfl rfl hi3 d_Planner_savedAt_16 ?_
      refine lv_goto (tgt := 21) hx hb d_Planner_savedAt_17 (by decide) ?_
      exact ret_i (u := ()) (wf := (fun u : Unit => wPlanner k gL κ (gU 0) ++ (wUses k gU υ))) C hP hD hS (Nat.zero_le _) (Nat.zero_le _) h d_Planner_savedAt_21
set_option maxHeartbeats 4000000 in
set_option maxRecDepth 100000 in
theorem t_Planner_leastLeft_2 {p : Program} {l : Launch} {e : Env} {s : State} {m : MethodId} {args : Array Value} {below : List Frame} {meth : Method} {c : Code} {A : Nat → Prop} {D : va_G} {k : Nat → ClassId} {gL : Nat → Nat} {gU : Nat → Nat} (C : Cx p s m args meth c D k "PromotionTill$Planner" b_Planner_leastLeft 2 (some .int) A) (N : Nat) (κ : St) (υ : St) (post : Int32 → (Unit) → Prop) :
    ∀ (n : Nat) (x1 : Int32) (H : Heap) (locs : List Loc) (ls : Array Slot), va_P D CL (wPlanner k gL κ (gU 0) ++ (wUses k gU υ)) H → va_D A (wPlanner k gL κ (gU 0) ++ (wUses k gU υ)) → va_S A s.heap H locs → lv_has ls 2 [(0, .ref (gL 0)), (1, .int x1)] → wp_Planner_leastLeft_2 N κ υ post n x1 → W p l e rm_Planner_leastLeft s m args below meth c H locs 0 0 (MQ below (va_Qi post (fun (u : Unit) t => va_P D CL (wPlanner k gL κ (gU 0) ++ (wUses k gU υ)) t.heap ∧ va_D A (wPlanner k gL κ (gU 0) ++ (wUses k gU υ))) A) args s rm_Planner_leastLeft.cells rm_Planner_leastLeft.slots A) (F0 m 2 ls []) := by
  obtain ⟨hx, hb, hr, hlk, hml, hown, hts, hK, hA⟩ := id C
  intro n
  induction n with
  | zero =>
    intro x1 H locs ls hP hD hS hl h
    exact absurd h (by simp [wp_Planner_leastLeft_2])
  | succ n ih =>
    intro x1 H locs ls hP hD hS hl h
    rw [wp_Planner_leastLeft_2] at h
    refine lv_iload_n hx hb d_Planner_leastLeft_2 rfl (lv_at hl 1 rfl) ?_
    refine lv_bipush (v := 12) hx hb d_Planner_leastLeft_3 (by decide) ?_
    refine lv_icmp_ge (tgt := 25) hx hb d_Planner_leastLeft_5 (by decide) (fun c1 => ?_) (fun c1 => ?_)
    · replace h := h.1 c1
      refine lv_iconst (v := (-1)) hx hb d_Planner_leastLeft_25 (by decide) ?_
      exact ret_i (u := ()) (wf := (fun u : Unit => wPlanner k gL κ (gU 0) ++ (wUses k gU υ))) C hP hD hS (Nat.zero_le _) (Nat.zero_le _) h d_Planner_leastLeft_26
    · replace h := h.2 c1
      refine lv_aload_n hx hb d_Planner_leastLeft_8 rfl (lv_at hl 0 rfl) ?_
      refine va_get (D := D) (ci := 3) (v := .ref (gL 3)) (C := R_Planner) (T := F_Planner) (N := 6) hx hb hts in_Planner hown hK hP 0 rfl rfl 2 (by decide) (hts _ kw_160) (fun _ h9 => h9) rfl d_Planner_leastLeft_9 ?_
      refine lv_iload_n hx hb d_Planner_leastLeft_12 rfl (lv_at hl 1 rfl) ?_
      obtain ⟨hi2, h⟩ := h
      refine va_iald hx hb hK hP 3 0 rfl rfl hi2 d_Planner_leastLeft_13 ?_
      refine lv_if_le (tgt := 19) hx hb d_Planner_leastLeft_14 (by decide) (fun c3 => ?_) (fun c3 => ?_)
      · replace h := h.1 c3
        refine lv_iinc (v := x1 + 1) (lv' := [(1, .int (x1 + 1)), (0, .ref (gL 0))]) hx hb d_Planner_leastLeft_19 hl (k := 1) rfl rfl (by decide) rfl (fun ls hl => ?_)
        refine lv_goto (tgt := 2) hx hb d_Planner_leastLeft_22 (by decide) ?_
        exact ih (x1 + 1) _ _ _ hP hD hS (lv_sub hl [1, 0] rfl) h
      · replace h := h.2 c3
        refine lv_iload_n hx hb d_Planner_leastLeft_17 rfl (lv_at hl 1 rfl) ?_
        exact ret_i (u := ()) (wf := (fun u : Unit => wPlanner k gL κ (gU 0) ++ (wUses k gU υ))) C hP hD hS (Nat.zero_le _) (Nat.zero_le _) h d_Planner_leastLeft_18
set_option maxHeartbeats 4000000 in
set_option maxRecDepth 100000 in
theorem m_Planner_leastLeft {l : Launch} {D : va_G} {k : Nat → ClassId} (N : Nat) (gL : Nat → Nat) (gU : Nat → Nat) (κ : St) (υ : St) (post : Int32 → (Unit) → Prop) (h : wp_Planner_leastLeft N  κ υ  post) : Ci l D k y_Planner_leastLeft b_Planner_leastLeft 2 .int rm_Planner_leastLeft [.ref (gL 0)] (wPlanner k gL κ (gU 0) ++ (wUses k gU υ)) (fun u : Unit => wPlanner k gL κ (gU 0) ++ (wUses k gU υ)) post := by
  refine Ci.of (by decide) (Nat.le_of_ble_eq_true rfl) ?_
  intro p e s m below meth c A H locs ls C hP hD hS hl
  obtain ⟨hx, hb, hr, hlk, hml, hown, hts, hK, hA⟩ := id C
  replace hl : lv_has ls 2 [(0, .ref (gL 0))] := hl
  unfold wp_Planner_leastLeft at h
  refine lv_iconst (v := 0) hx hb d_Planner_leastLeft_0 (by decide) ?_
  refine lv_istore_n (lv' := [(1, .int 0), (0, .ref (gL 0))]) hx hb d_Planner_leastLeft_1 rfl hl (by decide) rfl (fun ls hl => ?_)
  exact t_Planner_leastLeft_2 C N κ υ post   N 0 _ _ _ hP hD hS (lv_sub hl [1, 0] rfl) h
set_option maxHeartbeats 4000000 in
set_option maxRecDepth 100000 in
theorem m_Planner_isLimited {l : Launch} {D : va_G} {k : Nat → ClassId} (N : Nat) (gL : Nat → Nat) (gU : Nat → Nat) (κ : St) (υ : St) (x1 : Int32) (post : Int32 → (Unit) → Prop) (h : wp_Planner_isLimited N  κ υ x1 post) : Ci l D k y_Planner_isLimited b_Planner_isLimited 2 .boolean rm_Planner_isLimited [.ref (gL 0), .int x1] (wPlanner k gL κ (gU 0) ++ (wUses k gU υ)) (fun u : Unit => wPlanner k gL κ (gU 0) ++ (wUses k gU υ)) post := by
  refine Ci.of (by decide) (Nat.le_of_ble_eq_true rfl) ?_
  intro p e s m below meth c A H locs ls C hP hD hS hl
  obtain ⟨hx, hb, hr, hlk, hml, hown, hts, hK, hA⟩ := id C
  replace hl : lv_has ls 2 [(0, .ref (gL 0)), (1, .int x1)] := hl
  unfold wp_Planner_isLimited at h
  refine lv_aload_n hx hb d_Planner_isLimited_0 rfl (lv_at hl 0 rfl) ?_
  refine va_get (D := D) (ci := 3) (v := .ref (gL 1)) (C := R_Planner) (T := F_Planner) (N := 6) hx hb hts in_Planner hown hK hP 0 rfl rfl 0 (by decide) (hts _ kw_158) (fun _ h9 => h9) rfl d_Planner_isLimited_1 ?_
  refine lv_bipush (v := 12) hx hb d_Planner_isLimited_4 (by decide) ?_
  refine lv_iload_n hx hb d_Planner_isLimited_6 rfl (lv_at hl 1 rfl) ?_
  refine lv_iadd hx hb d_Planner_isLimited_7 ?_
  obtain ⟨hi1, h⟩ := h
  refine va_iald hx hb hK hP 1 0 rfl rfl hi1 d_Planner_isLimited_8 ?_
  refine lv_if_le (tgt := 16) hx hb d_Planner_isLimited_9 (by decide) (fun c2 => ?_) (fun c2 => ?_)
  · replace h := h.1 c2
    refine lv_iconst (v := 0) hx hb d_Planner_isLimited_16 (by decide) ?_
    exact ret_z (u := ()) (wf := (fun u : Unit => wPlanner k gL κ (gU 0) ++ (wUses k gU υ))) C rfl hP hD hS (Nat.zero_le _) (Nat.zero_le _) h d_Planner_isLimited_17
  · replace h := h.2 c2
    refine lv_iconst (v := 1) hx hb d_Planner_isLimited_12 (by decide) ?_
    refine lv_goto (tgt := 17) hx hb d_Planner_isLimited_13 (by decide) ?_
    exact ret_z (u := ()) (wf := (fun u : Unit => wPlanner k gL κ (gU 0) ++ (wUses k gU υ))) C rfl hP hD hS (Nat.zero_le _) (Nat.zero_le _) h d_Planner_isLimited_17
set_option maxHeartbeats 4000000 in
set_option maxRecDepth 100000 in
theorem t_Planner_countUp_2 {p : Program} {l : Launch} {e : Env} {s : State} {m : MethodId} {args : Array Value} {below : List Frame} {meth : Method} {c : Code} {A : Nat → Prop} {D : va_G} {k : Nat → ClassId} {gL : Nat → Nat} {gU : Nat → Nat} (C : Cx p s m args meth c D k "PromotionTill$Planner" b_Planner_countUp 2 none A) (N : Nat) (υ : St) (post : ((St)) → Prop) :
    ∀ (n : Nat) (x1 : Int32) (κ : (St)) (H : Heap) (locs : List Loc) (ls : Array Slot), va_P D CL (wPlanner k gL κ (gU 0) ++ (wUses k gU υ)) H → va_D A (wPlanner k gL κ (gU 0) ++ (wUses k gU υ)) → va_S A s.heap H locs → lv_has ls 2 [(0, .ref (gL 0)), (1, .int x1)] → wp_Planner_countUp_2 N υ post n x1 κ → W p l e rm_Planner_countUp s m args below meth c H locs 0 0 (MQ below (va_Qv post (fun (u : (St)) t => va_P D CL (wPlanner k gL u (gU 0) ++ (wUses k gU υ)) t.heap ∧ va_D A (wPlanner k gL u (gU 0) ++ (wUses k gU υ))) A) args s rm_Planner_countUp.cells rm_Planner_countUp.slots A) (F0 m 2 ls []) := by
  obtain ⟨hx, hb, hr, hlk, hml, hown, hts, hK, hA⟩ := id C
  intro n
  induction n with
  | zero =>
    intro x1 κ H locs ls hP hD hS hl h
    exact absurd h (by simp [wp_Planner_countUp_2])
  | succ n ih =>
    intro x1 κ H locs ls hP hD hS hl h
    rw [wp_Planner_countUp_2] at h
    refine lv_iload_n hx hb d_Planner_countUp_2 rfl (lv_at hl 1 rfl) ?_
    refine lv_bipush (v := 18) hx hb d_Planner_countUp_3 (by decide) ?_
    refine lv_icmp_ge (tgt := 47) hx hb d_Planner_countUp_5 (by decide) (fun c1 => ?_) (fun c1 => ?_)
    · replace h := h.1 c1
      exact ret_v (u := κ) (wf := (fun u : (St) => wPlanner k gL u (gU 0) ++ (wUses k gU υ))) C hP hD hS (Nat.zero_le _) (Nat.zero_le _) h d_Planner_countUp_47
    · replace h := h.2 c1
      refine lv_aload_n hx hb d_Planner_countUp_8 rfl (lv_at hl 0 rfl) ?_
      refine va_get (D := D) (ci := 3) (v := .ref (gL 3)) (C := R_Planner) (T := F_Planner) (N := 6) hx hb hts in_Planner hown hK hP 0 rfl rfl 2 (by decide) (hts _ kw_160) (fun _ h9 => h9) rfl d_Planner_countUp_9 ?_
      refine lv_iload_n hx hb d_Planner_countUp_12 rfl (lv_at hl 1 rfl) ?_
      obtain ⟨hi2, h⟩ := h
      refine va_iald hx hb hK hP 3 0 rfl rfl hi2 d_Planner_countUp_13 ?_
      refine lv_aload_n hx hb d_Planner_countUp_14 rfl (lv_at hl 0 rfl) ?_
      refine va_get (D := D) (ci := 3) (v := .ref (gL 1)) (C := R_Planner) (T := F_Planner) (N := 6) hx hb hts in_Planner hown hK hP 0 rfl rfl 0 (by decide) (hts _ kw_158) (fun _ h9 => h9) rfl d_Planner_countUp_15 ?_
      refine lv_iload_n hx hb d_Planner_countUp_18 rfl (lv_at hl 1 rfl) ?_
      obtain ⟨hi3, h⟩ := h
      refine va_iald hx hb hK hP 1 0 rfl rfl hi3 d_Planner_countUp_19 ?_
      refine lv_icmp_ge (tgt := 34) hx hb d_Planner_countUp_20 (by decide) (fun c4 => ?_) (fun c4 => ?_)
      · replace h := h.1 c4
        refine lv_aload_n hx hb d_Planner_countUp_34 rfl (lv_at hl 0 rfl) ?_
        refine va_get (D := D) (ci := 3) (v := .ref (gL 3)) (C := R_Planner) (T := F_Planner) (N := 6) hx hb hts in_Planner hown hK hP 0 rfl rfl 2 (by decide) (hts _ kw_160) (fun _ h9 => h9) rfl d_Planner_countUp_35 ?_
        refine lv_iload_n hx hb d_Planner_countUp_38 rfl (lv_at hl 1 rfl) ?_
        refine lv_iconst (v := 0) hx hb d_Planner_countUp_39 (by decide) ?_
        obtain ⟨hi5, h⟩ := h
        refine va_iast hx hb hK hP hD hS 3 0 rfl rfl hi5 d_Planner_countUp_40 (fun H locs hP hD hS => ?_)
        obtain ⟨κ6, eκ6⟩ : ∃ z, z = s2 κ 2 (Int32.toNatClampNeg x1) 0 := ⟨_, rfl⟩
        replace hP : va_P D CL (wPlanner k gL κ6 (gU 0) ++ (wUses k gU υ)) H := by rw [eκ6]; exact hP
        replace hD : va_D A (wPlanner k gL κ6 (gU 0) ++ (wUses k gU υ)) := by rw [eκ6]; exact hD
        replace h := h κ6 eκ6
        refine lv_iinc (v := x1 + 1) (lv' := [(1, .int (x1 + 1)), (0, .ref (gL 0))]) hx hb d_Planner_countUp_41 hl (k := 1) rfl rfl (by decide) rfl (fun ls hl => ?_)
        refine lv_goto (tgt := 2) hx hb d_Planner_countUp_44 (by decide) ?_
        exact ih (x1 + 1) κ6 _ _ _ hP hD hS (lv_sub hl [1, 0] rfl) h
      · replace h := h.2 c4
        refine lv_aload_n hx hb d_Planner_countUp_23 rfl (lv_at hl 0 rfl) ?_
        refine va_get (D := D) (ci := 3) (v := .ref (gL 3)) (C := R_Planner) (T := F_Planner) (N := 6) hx hb hts in_Planner hown hK hP 0 rfl rfl 2 (by decide) (hts _ kw_160) (fun _ h9 => h9) rfl d_Planner_countUp_24 ?_
        refine lv_iload_n hx hb d_Planner_countUp_27 rfl (lv_at hl 1 rfl) ?_
        refine lv_dup2_11 hx hb d_Planner_countUp_28 rfl rfl ?_
        obtain ⟨hi7, h⟩ := h
        refine va_iald hx hb hK hP 3 0 rfl rfl hi7 d_Planner_countUp_29 ?_
        refine lv_iconst (v := 1) hx hb d_Planner_countUp_30 (by decide) ?_
        refine lv_iadd hx hb d_Planner_countUp_31 ?_
        obtain ⟨hi8, h⟩ := h
        refine va_iast hx hb hK hP hD hS 3 0 rfl rfl hi8 d_Planner_countUp_32 (fun H locs hP hD hS => ?_)
        obtain ⟨κ9, eκ9⟩ : ∃ z, z = s2 κ 2 (Int32.toNatClampNeg x1) ((κ 2 (Int32.toNatClampNeg x1)) + 1) := ⟨_, rfl⟩
        replace hP : va_P D CL (wPlanner k gL κ9 (gU 0) ++ (wUses k gU υ)) H := by rw [eκ9]; exact hP
        replace hD : va_D A (wPlanner k gL κ9 (gU 0) ++ (wUses k gU υ)) := by rw [eκ9]; exact hD
        replace h := h κ9 eκ9
        exact ret_v (u := κ9) (wf := (fun u : (St) => wPlanner k gL u (gU 0) ++ (wUses k gU υ))) C hP hD hS (Nat.zero_le _) (Nat.zero_le _) h d_Planner_countUp_33
set_option maxHeartbeats 4000000 in
set_option maxRecDepth 100000 in
theorem m_Planner_countUp {l : Launch} {D : va_G} {k : Nat → ClassId} (N : Nat) (gL : Nat → Nat) (gU : Nat → Nat) (κ : St) (υ : St) (post : ((St)) → Prop) (h : wp_Planner_countUp N  κ υ  post) : Cv l D k y_Planner_countUp b_Planner_countUp 2 rm_Planner_countUp [.ref (gL 0)] (wPlanner k gL κ (gU 0) ++ (wUses k gU υ)) (fun u : (St) => wPlanner k gL u (gU 0) ++ (wUses k gU υ)) post := by
  refine Cv.of (by decide) (Nat.le_of_ble_eq_true rfl) ?_
  intro p e s m below meth c A H locs ls C hP hD hS hl
  obtain ⟨hx, hb, hr, hlk, hml, hown, hts, hK, hA⟩ := id C
  replace hl : lv_has ls 2 [(0, .ref (gL 0))] := hl
  unfold wp_Planner_countUp at h
  refine lv_iconst (v := 0) hx hb d_Planner_countUp_0 (by decide) ?_
  refine lv_istore_n (lv' := [(1, .int 0), (0, .ref (gL 0))]) hx hb d_Planner_countUp_1 rfl hl (by decide) rfl (fun ls hl => ?_)
  exact t_Planner_countUp_2 C N υ post   N 0 κ _ _ _ hP hD hS (lv_sub hl [1, 0] rfl) h
set_option maxHeartbeats 4000000 in
set_option maxRecDepth 100000 in
theorem m_Planner_savingBehind {l : Launch} {D : va_G} {k : Nat → ClassId} (N : Nat) (gL : Nat → Nat) (gU : Nat → Nat) (κ : St) (υ : St) (x1 : Int32) (x2 : Int32) (post : Int32 → (Unit) → Prop) (h : wp_Planner_savingBehind N  κ υ x1 x2 post) : Ci l D k y_Planner_savingBehind b_Planner_savingBehind 3 .int rm_Planner_savingBehind [.ref (gL 0), .int x1, .int x2] (wPlanner k gL κ (gU 0) ++ (wUses k gU υ)) (fun u : Unit => wPlanner k gL κ (gU 0) ++ (wUses k gU υ)) post := by
  refine Ci.of (by decide) (Nat.le_of_ble_eq_true rfl) ?_
  intro p e s m below meth c A H locs ls C hP hD hS hl
  obtain ⟨hx, hb, hr, hlk, hml, hown, hts, hK, hA⟩ := id C
  replace hl : lv_has ls 3 [(0, .ref (gL 0)), (1, .int x1), (2, .int x2)] := hl
  unfold wp_Planner_savingBehind at h
  refine lv_aload_n hx hb d_Planner_savingBehind_0 rfl (lv_at hl 0 rfl) ?_
  refine va_get (D := D) (ci := 3) (v := .ref (gU 0)) (C := R_Planner) (T := F_Planner) (N := 6) hx hb hts in_Planner hown hK hP 0 rfl rfl 4 (by decide) (hts _ kw_162) (fun _ h9 => h9) rfl d_Planner_savingBehind_1 ?_
  refine lv_iload_n hx hb d_Planner_savingBehind_4 rfl (lv_at hl 2 rfl) ?_
  refine call_i (wr := [(gL 0, .inr (3, [.ref (gL 1), .ref (gL 2), .ref (gL 3), .ref (gL 4), .ref (gU 0), .int (κ 5 0)])), (gL 1, .inl (k 0, 18, .inl (κ 0))), (gL 2, .inl (k 0, 18, .inl (κ 1))), (gL 3, .inl (k 0, 18, .inl (κ 2))), (gL 4, .inl (k 0, 3000, .inl (κ 3)))]) (wn := (fun u1 : Unit => wPlanner k gL κ (gU 0) ++ (wUses k gU υ))) C hP hD hS [5, 6, 7, 8, 9, 10, 11, 12, 13] [0, 1, 2, 3, 4] [0, 1, 2, 3, 4, 5, 6, 7, 8, 9, 10, 11, 12, 13] rfl rfl (by decide) (by decide) (fun _ => rfl) (by decide) (runV (As := [.int x2]) (rest := []) C (hP.sub [5, 6, 7, 8, 9, 10, 11, 12, 13] rfl) (hD.sub [5, 6, 7, 8, 9, 10, 11, 12, 13] (by decide) rfl) (m_Uses_savingOf N gU υ x2  _ h H.size) kw_579 kw_580 kw_581 kw_7 kw_582 hd_Uses_savingOf ⟨Nat.le_of_ble_eq_true rfl, Nat.le_of_ble_eq_true rfl⟩ ⟨Nat.le_of_ble_eq_true rfl, Nat.le_of_ble_eq_true rfl⟩ 0 rfl rfl rfl rfl hl.1 (Nat.le_of_ble_eq_true rfl) d_Planner_savingBehind_5) (fun r2 u1 H locs h hP hD hS => ?_)
  try dsimp only at h
  refine lv_aload_n hx hb d_Planner_savingBehind_8 rfl (lv_at hl 0 rfl) ?_
  refine lv_iload_n hx hb d_Planner_savingBehind_9 rfl (lv_at hl 1 rfl) ?_
  refine lv_aload_n hx hb d_Planner_savingBehind_10 rfl (lv_at hl 0 rfl) ?_
  refine va_get (D := D) (ci := 3) (v := .ref (gU 0)) (C := R_Planner) (T := F_Planner) (N := 6) hx hb hts in_Planner hown hK hP 0 rfl rfl 4 (by decide) (hts _ kw_162) (fun _ h9 => h9) rfl d_Planner_savingBehind_11 ?_
  refine lv_iload_n hx hb d_Planner_savingBehind_14 rfl (lv_at hl 2 rfl) ?_
  refine call_i (wr := [(gL 0, .inr (3, [.ref (gL 1), .ref (gL 2), .ref (gL 3), .ref (gL 4), .ref (gU 0), .int (κ 5 0)])), (gL 1, .inl (k 0, 18, .inl (κ 0))), (gL 2, .inl (k 0, 18, .inl (κ 1))), (gL 3, .inl (k 0, 18, .inl (κ 2))), (gL 4, .inl (k 0, 3000, .inl (κ 3)))]) (wn := (fun u3 : Unit => wPlanner k gL κ (gU 0) ++ (wUses k gU υ))) C hP hD hS [5, 6, 7, 8, 9, 10, 11, 12, 13] [0, 1, 2, 3, 4] [0, 1, 2, 3, 4, 5, 6, 7, 8, 9, 10, 11, 12, 13] rfl rfl (by decide) (by decide) (fun _ => rfl) (by decide) (runV (As := [.int x2]) (rest := [.int x1, .ref (gL 0), .int r2]) C (hP.sub [5, 6, 7, 8, 9, 10, 11, 12, 13] rfl) (hD.sub [5, 6, 7, 8, 9, 10, 11, 12, 13] (by decide) rfl) (m_Uses_stepOf N gU υ x2  _ h H.size) kw_583 kw_584 kw_585 kw_7 kw_586 hd_Uses_stepOf ⟨Nat.le_of_ble_eq_true rfl, Nat.le_of_ble_eq_true rfl⟩ ⟨Nat.le_of_ble_eq_true rfl, Nat.le_of_ble_eq_true rfl⟩ 0 rfl rfl rfl rfl hl.1 (Nat.le_of_ble_eq_true rfl) d_Planner_savingBehind_15) (fun r4 u3 H locs h hP hD hS => ?_)
  try dsimp only at h
  refine lv_isub hx hb d_Planner_savingBehind_18 ?_
  refine same_i C hP hD hS (runV (As := [.int (x1 - r4)]) (rest := [.int r2]) C hP hD (m_Planner_savedAt N gL gU κ υ (x1 - r4)  _ h H.size) kw_563 kw_565 kp_12 kw_6 kw_566 hd_Planner_savedAt ⟨Nat.le_of_ble_eq_true rfl, Nat.le_of_ble_eq_true rfl⟩ ⟨Nat.le_of_ble_eq_true rfl, Nat.le_of_ble_eq_true rfl⟩ 0 rfl rfl rfl rfl hl.1 (Nat.le_of_ble_eq_true rfl) d_Planner_savingBehind_19) (fun r6 u5 H locs h hP hD hS => ?_)
  replace hP : va_P D CL (wPlanner k gL κ (gU 0) ++ (wUses k gU υ)) H := hP
  replace hD : va_D A (wPlanner k gL κ (gU 0) ++ (wUses k gU υ)) := hD
  try dsimp only at h
  refine lv_iadd hx hb d_Planner_savingBehind_22 ?_
  exact ret_i (u := ()) (wf := (fun u : Unit => wPlanner k gL κ (gU 0) ++ (wUses k gU υ))) C hP hD hS (Nat.zero_le _) (Nat.zero_le _) h d_Planner_savingBehind_23
set_option maxHeartbeats 4000000 in
set_option maxRecDepth 100000 in
theorem t_Planner_fits_78 {p : Program} {l : Launch} {e : Env} {s : State} {m : MethodId} {args : Array Value} {below : List Frame} {meth : Method} {c : Code} {A : Nat → Prop} {D : va_G} {k : Nat → ClassId} {gL : Nat → Nat} {gU : Nat → Nat} (C : Cx p s m args meth c D k "PromotionTill$Planner" b_Planner_fits 7 (some .boolean) A) (N : Nat) (κ : St) (υ : St) (post : Int32 → (Unit) → Prop) (K_39 : Int32 → Int32 → Int32 → Int32 → Prop) (hK_39 : ∀ (x1 : Int32) (x3 : Int32) (x4 : Int32) (x5 : Int32) (H : Heap) (locs : List Loc) (ls : Array Slot), va_P D CL (wPlanner k gL κ (gU 0) ++ (wUses k gU υ)) H → va_D A (wPlanner k gL κ (gU 0) ++ (wUses k gU υ)) → va_S A s.heap H locs → lv_has ls 7 [(0, .ref (gL 0)), (1, .int x1), (3, .int x3), (4, .int x4), (5, .int x5)] → K_39 x1 x3 x4 x5 → W p l e rm_Planner_fits s m args below meth c H locs 0 0 (MQ below (va_Qi post (fun (u : Unit) t => va_P D CL (wPlanner k gL κ (gU 0) ++ (wUses k gU υ)) t.heap ∧ va_D A (wPlanner k gL κ (gU 0) ++ (wUses k gU υ))) A) args s rm_Planner_fits.cells rm_Planner_fits.slots A) (F0 m 39 ls [])) :
    ∀ (x1 : Int32) (x5 : Int32) (x6 : Int32) (y0 : Int32) (H : Heap) (locs : List Loc) (ls : Array Slot), va_P D CL (wPlanner k gL κ (gU 0) ++ (wUses k gU υ)) H → va_D A (wPlanner k gL κ (gU 0) ++ (wUses k gU υ)) → va_S A s.heap H locs → lv_has ls 7 [(0, .ref (gL 0)), (1, .int x1), (5, .int x5), (6, .int x6)] → wp_Planner_fits_78 N κ υ post K_39 x1 x5 x6 y0 → W p l e rm_Planner_fits s m args below meth c H locs 0 0 (MQ below (va_Qi post (fun (u : Unit) t => va_P D CL (wPlanner k gL κ (gU 0) ++ (wUses k gU υ)) t.heap ∧ va_D A (wPlanner k gL κ (gU 0) ++ (wUses k gU υ))) A) args s rm_Planner_fits.cells rm_Planner_fits.slots A) (F0 m 78 ls [.int y0]) := by
  obtain ⟨hx, hb, hr, hlk, hml, hown, hts, hK, hA⟩ := id C
  intro x1 x5 x6 y0 H locs ls hP hD hS hl h
  unfold wp_Planner_fits_78 at h
  refine lv_istore (lv' := [(4, .int y0), (0, .ref (gL 0)), (1, .int x1), (5, .int x5), (6, .int x6)]) hx hb d_Planner_fits_78 hl (by decide) rfl (fun ls hl => ?_)
  refine lv_aload_n hx hb d_Planner_fits_80 rfl (lv_at hl 1 rfl) ?_
  refine va_get (D := D) (ci := 3) (v := .ref (gL 3)) (C := R_Planner) (T := F_Planner) (N := 6) hx hb hts in_Planner hown hK hP 0 rfl rfl 2 (by decide) (hts _ kw_160) (fun _ h9 => h9) rfl d_Planner_fits_81 ?_
  refine lv_iload hx hb d_Planner_fits_84 (lv_at hl 4 rfl) ?_
  obtain ⟨hi14, h⟩ := h
  refine va_iald hx hb hK hP 3 0 rfl rfl hi14 d_Planner_fits_86 ?_
  refine lv_iload hx hb d_Planner_fits_87 (lv_at hl 0 rfl) ?_
  refine lv_icmp_ge (tgt := 94) hx hb d_Planner_fits_89 (by decide) (fun c15 => ?_) (fun c15 => ?_)
  · replace h := h.1 c15
    refine lv_iload hx hb d_Planner_fits_94 (lv_at hl 4 rfl) ?_
    refine lv_istore_n (lv' := [(3, .int x6), (4, .int y0), (0, .ref (gL 0)), (1, .int x1), (5, .int x5), (6, .int x6)]) hx hb d_Planner_fits_96 rfl hl (by decide) rfl (fun ls hl => ?_)
    refine lv_iinc (v := x5 + 1) (lv' := [(5, .int (x5 + 1)), (3, .int x6), (4, .int y0), (0, .ref (gL 0)), (1, .int x1), (6, .int x6)]) hx hb d_Planner_fits_97 hl (k := 4) rfl rfl (by decide) rfl (fun ls hl => ?_)
    refine lv_goto (tgt := 39) hx hb d_Planner_fits_100 (by decide) ?_
    exact hK_39 x1 x6 y0 (x5 + 1) _ _ _ hP hD hS (lv_sub hl [3, 4, 1, 2, 0] rfl) h
  · replace h := h.2 c15
    refine lv_iconst (v := 0) hx hb d_Planner_fits_92 (by decide) ?_
    exact ret_z (u := ()) (wf := (fun u : Unit => wPlanner k gL κ (gU 0) ++ (wUses k gU υ))) C rfl hP hD hS (Nat.zero_le _) (Nat.zero_le _) h d_Planner_fits_93
set_option maxHeartbeats 4000000 in
set_option maxRecDepth 100000 in
theorem t_Planner_fits_39 {p : Program} {l : Launch} {e : Env} {s : State} {m : MethodId} {args : Array Value} {below : List Frame} {meth : Method} {c : Code} {A : Nat → Prop} {D : va_G} {k : Nat → ClassId} {gL : Nat → Nat} {gU : Nat → Nat} (C : Cx p s m args meth c D k "PromotionTill$Planner" b_Planner_fits 7 (some .boolean) A) (N : Nat) (κ : St) (υ : St) (post : Int32 → (Unit) → Prop) :
    ∀ (n : Nat) (x1 : Int32) (x3 : Int32) (x4 : Int32) (x5 : Int32) (H : Heap) (locs : List Loc) (ls : Array Slot), va_P D CL (wPlanner k gL κ (gU 0) ++ (wUses k gU υ)) H → va_D A (wPlanner k gL κ (gU 0) ++ (wUses k gU υ)) → va_S A s.heap H locs → lv_has ls 7 [(0, .ref (gL 0)), (1, .int x1), (3, .int x3), (4, .int x4), (5, .int x5)] → wp_Planner_fits_39 N κ υ post n x1 x3 x4 x5 → W p l e rm_Planner_fits s m args below meth c H locs 0 0 (MQ below (va_Qi post (fun (u : Unit) t => va_P D CL (wPlanner k gL κ (gU 0) ++ (wUses k gU υ)) t.heap ∧ va_D A (wPlanner k gL κ (gU 0) ++ (wUses k gU υ))) A) args s rm_Planner_fits.cells rm_Planner_fits.slots A) (F0 m 39 ls []) := by
  obtain ⟨hx, hb, hr, hlk, hml, hown, hts, hK, hA⟩ := id C
  intro n
  induction n with
  | zero =>
    intro x1 x3 x4 x5 H locs ls hP hD hS hl h
    exact absurd h (by simp [wp_Planner_fits_39])
  | succ n ih =>
    intro x1 x3 x4 x5 H locs ls hP hD hS hl h
    rw [wp_Planner_fits_39] at h
    refine lv_iload hx hb d_Planner_fits_39 (lv_at hl 4 rfl) ?_
    refine lv_aload_n hx hb d_Planner_fits_41 rfl (lv_at hl 0 rfl) ?_
    refine va_get (D := D) (ci := 3) (v := .ref (gU 0)) (C := R_Planner) (T := F_Planner) (N := 6) hx hb hts in_Planner hown hK hP 0 rfl rfl 4 (by decide) (hts _ kw_162) (fun _ h9 => h9) rfl d_Planner_fits_42 ?_
    refine lv_iload_n hx hb d_Planner_fits_45 rfl (lv_at hl 1 rfl) ?_
    refine call_i (wr := [(gL 0, .inr (3, [.ref (gL 1), .ref (gL 2), .ref (gL 3), .ref (gL 4), .ref (gU 0), .int (κ 5 0)])), (gL 1, .inl (k 0, 18, .inl (κ 0))), (gL 2, .inl (k 0, 18, .inl (κ 1))), (gL 3, .inl (k 0, 18, .inl (κ 2))), (gL 4, .inl (k 0, 3000, .inl (κ 3)))]) (wn := (fun u8 : Unit => wPlanner k gL κ (gU 0) ++ (wUses k gU υ))) C hP hD hS [5, 6, 7, 8, 9, 10, 11, 12, 13] [0, 1, 2, 3, 4] [0, 1, 2, 3, 4, 5, 6, 7, 8, 9, 10, 11, 12, 13] rfl rfl (by decide) (by decide) (fun _ => rfl) (by decide) (runV (As := [.int x1]) (rest := [.int x5]) C (hP.sub [5, 6, 7, 8, 9, 10, 11, 12, 13] rfl) (hD.sub [5, 6, 7, 8, 9, 10, 11, 12, 13] (by decide) rfl) (m_Uses_unitsOf N gU υ x1  _ h H.size) kw_599 kw_600 kw_601 kw_7 kw_602 hd_Uses_unitsOf ⟨Nat.le_of_ble_eq_true rfl, Nat.le_of_ble_eq_true rfl⟩ ⟨Nat.le_of_ble_eq_true rfl, Nat.le_of_ble_eq_true rfl⟩ 0 rfl rfl rfl rfl hl.1 (Nat.le_of_ble_eq_true rfl) d_Planner_fits_46) (fun r9 u8 H locs h hP hD hS => ?_)
    try dsimp only at h
    refine lv_icmp_ge (tgt := 103) hx hb d_Planner_fits_49 (by decide) (fun c10 => ?_) (fun c10 => ?_)
    · replace h := h.1 c10
      refine lv_iconst (v := 1) hx hb d_Planner_fits_103 (by decide) ?_
      exact ret_z (u := ()) (wf := (fun u : Unit => wPlanner k gL κ (gU 0) ++ (wUses k gU υ))) C rfl hP hD hS (Nat.zero_le _) (Nat.zero_le _) h d_Planner_fits_104
    · replace h := h.2 c10
      refine lv_aload_n hx hb d_Planner_fits_52 rfl (lv_at hl 0 rfl) ?_
      refine va_get (D := D) (ci := 3) (v := .ref (gU 0)) (C := R_Planner) (T := F_Planner) (N := 6) hx hb hts in_Planner hown hK hP 0 rfl rfl 4 (by decide) (hts _ kw_162) (fun _ h9 => h9) rfl d_Planner_fits_53 ?_
      refine lv_iload_n hx hb d_Planner_fits_56 rfl (lv_at hl 1 rfl) ?_
      refine lv_iload hx hb d_Planner_fits_57 (lv_at hl 4 rfl) ?_
      refine call_i (wr := [(gL 0, .inr (3, [.ref (gL 1), .ref (gL 2), .ref (gL 3), .ref (gL 4), .ref (gU 0), .int (κ 5 0)])), (gL 1, .inl (k 0, 18, .inl (κ 0))), (gL 2, .inl (k 0, 18, .inl (κ 1))), (gL 3, .inl (k 0, 18, .inl (κ 2))), (gL 4, .inl (k 0, 3000, .inl (κ 3)))]) (wn := (fun u11 : Unit => wPlanner k gL κ (gU 0) ++ (wUses k gU υ))) C hP hD hS [5, 6, 7, 8, 9, 10, 11, 12, 13] [0, 1, 2, 3, 4] [0, 1, 2, 3, 4, 5, 6, 7, 8, 9, 10, 11, 12, 13] rfl rfl (by decide) (by decide) (fun _ => rfl) (by decide) (runV (As := [.int x1, .int x5]) (rest := []) C (hP.sub [5, 6, 7, 8, 9, 10, 11, 12, 13] rfl) (hD.sub [5, 6, 7, 8, 9, 10, 11, 12, 13] (by decide) rfl) (m_Uses_articleOf N gU υ x1 x5  _ h H.size) kw_603 kw_604 kw_605 kw_7 kw_606 hd_Uses_articleOf ⟨Nat.le_of_ble_eq_true rfl, Nat.le_of_ble_eq_true rfl⟩ ⟨Nat.le_of_ble_eq_true rfl, Nat.le_of_ble_eq_true rfl⟩ 0 rfl rfl rfl rfl hl.1 (Nat.le_of_ble_eq_true rfl) d_Planner_fits_59) (fun r12 u11 H locs h hP hD hS => ?_)
      try dsimp only at h
      refine lv_istore (lv' := [(6, .int r12), (0, .ref (gL 0)), (1, .int x1), (3, .int x3), (4, .int x4), (5, .int x5)]) hx hb d_Planner_fits_62 hl (by decide) rfl (fun ls hl => ?_)
      refine lv_iload hx hb d_Planner_fits_64 (lv_at hl 0 rfl) ?_
      refine lv_iload_n hx hb d_Planner_fits_66 rfl (lv_at hl 3 rfl) ?_
      refine lv_icmp_ne (tgt := 77) hx hb d_Planner_fits_67 (by decide) (fun c13 => ?_) (fun c13 => ?_)
      · replace h := h.1 c13
        refine lv_iconst (v := 1) hx hb d_Planner_fits_77 (by decide) ?_
        exact t_Planner_fits_78 C N κ υ post (wp_Planner_fits_39 N κ υ post n) ih x1 x5 r12 1 _ _ _ hP hD hS (lv_sub hl [1, 2, 5, 0] rfl) h
      · replace h := h.2 c13
        refine lv_iload hx hb d_Planner_fits_70 (lv_at hl 4 rfl) ?_
        refine lv_iconst (v := 1) hx hb d_Planner_fits_72 (by decide) ?_
        refine lv_iadd hx hb d_Planner_fits_73 ?_
        refine lv_goto (tgt := 78) hx hb d_Planner_fits_74 (by decide) ?_
        exact t_Planner_fits_78 C N κ υ post (wp_Planner_fits_39 N κ υ post n) ih x1 x5 r12 (x4 + 1) _ _ _ hP hD hS (lv_sub hl [1, 2, 5, 0] rfl) h
set_option maxHeartbeats 4000000 in
set_option maxRecDepth 100000 in
theorem t_Planner_fits_31 {p : Program} {l : Launch} {e : Env} {s : State} {m : MethodId} {args : Array Value} {below : List Frame} {meth : Method} {c : Code} {A : Nat → Prop} {D : va_G} {k : Nat → ClassId} {gL : Nat → Nat} {gU : Nat → Nat} (C : Cx p s m args meth c D k "PromotionTill$Planner" b_Planner_fits 7 (some .boolean) A) (N : Nat) (κ : St) (υ : St) (post : Int32 → (Unit) → Prop) :
    ∀ (x1 : Int32) (H : Heap) (locs : List Loc) (ls : Array Slot), va_P D CL (wPlanner k gL κ (gU 0) ++ (wUses k gU υ)) H → va_D A (wPlanner k gL κ (gU 0) ++ (wUses k gU υ)) → va_S A s.heap H locs → lv_has ls 7 [(0, .ref (gL 0)), (1, .int x1)] → wp_Planner_fits_31 N κ υ post x1 → W p l e rm_Planner_fits s m args below meth c H locs 0 0 (MQ below (va_Qi post (fun (u : Unit) t => va_P D CL (wPlanner k gL κ (gU 0) ++ (wUses k gU υ)) t.heap ∧ va_D A (wPlanner k gL κ (gU 0) ++ (wUses k gU υ))) A) args s rm_Planner_fits.cells rm_Planner_fits.slots A) (F0 m 31 ls []) := by
  obtain ⟨hx, hb, hr, hlk, hml, hown, hts, hK, hA⟩ := id C
  intro x1 H locs ls hP hD hS hl h
  unfold wp_Planner_fits_31 at h
  refine lv_iconst (v := (-1)) hx hb d_Planner_fits_31 (by decide) ?_
  refine lv_istore_n (lv' := [(3, .int (-1)), (0, .ref (gL 0)), (1, .int x1)]) hx hb d_Planner_fits_32 rfl hl (by decide) rfl (fun ls hl => ?_)
  refine lv_iconst (v := 0) hx hb d_Planner_fits_33 (by decide) ?_
  refine lv_istore (lv' := [(4, .int 0), (3, .int (-1)), (0, .ref (gL 0)), (1, .int x1)]) hx hb d_Planner_fits_34 hl (by decide) rfl (fun ls hl => ?_)
  refine lv_iconst (v := 0) hx hb d_Planner_fits_36 (by decide) ?_
  refine lv_istore (lv' := [(5, .int 0), (4, .int 0), (3, .int (-1)), (0, .ref (gL 0)), (1, .int x1)]) hx hb d_Planner_fits_37 hl (by decide) rfl (fun ls hl => ?_)
  exact t_Planner_fits_39 C N κ υ post   N x1 (-1) 0 0 _ _ _ hP hD hS (lv_sub hl [3, 4, 2, 1, 0] rfl) h
set_option maxHeartbeats 4000000 in
set_option maxRecDepth 100000 in
theorem m_Planner_fits {l : Launch} {D : va_G} {k : Nat → ClassId} (N : Nat) (gL : Nat → Nat) (gU : Nat → Nat) (κ : St) (υ : St) (x1 : Int32) (post : Int32 → (Unit) → Prop) (h : wp_Planner_fits N  κ υ x1 post) : Ci l D k y_Planner_fits b_Planner_fits 7 .boolean rm_Planner_fits [.ref (gL 0), .int x1] (wPlanner k gL κ (gU 0) ++ (wUses k gU υ)) (fun u : Unit => wPlanner k gL κ (gU 0) ++ (wUses k gU υ)) post := by
  refine Ci.of (by decide) (Nat.le_of_ble_eq_true rfl) ?_
  intro p e s m below meth c A H locs ls C hP hD hS hl
  obtain ⟨hx, hb, hr, hlk, hml, hown, hts, hK, hA⟩ := id C
  replace hl : lv_has ls 7 [(0, .ref (gL 0)), (1, .int x1)] := hl
  unfold wp_Planner_fits at h
  refine lv_aload_n hx hb d_Planner_fits_0 rfl (lv_at hl 0 rfl) ?_
  refine va_get (D := D) (ci := 3) (v := .ref (gU 0)) (C := R_Planner) (T := F_Planner) (N := 6) hx hb hts in_Planner hown hK hP 0 rfl rfl 4 (by decide) (hts _ kw_162) (fun _ h9 => h9) rfl d_Planner_fits_1 ?_
  refine lv_iload_n hx hb d_Planner_fits_4 rfl (lv_at hl 1 rfl) ?_
  refine call_i (wr := [(gL 0, .inr (3, [.ref (gL 1), .ref (gL 2), .ref (gL 3), .ref (gL 4), .ref (gU 0), .int (κ 5 0)])), (gL 1, .inl (k 0, 18, .inl (κ 0))), (gL 2, .inl (k 0, 18, .inl (κ 1))), (gL 3, .inl (k 0, 18, .inl (κ 2))), (gL 4, .inl (k 0, 3000, .inl (κ 3)))]) (wn := (fun u1 : Unit => wPlanner k gL κ (gU 0) ++ (wUses k gU υ))) C hP hD hS [5, 6, 7, 8, 9, 10, 11, 12, 13] [0, 1, 2, 3, 4] [0, 1, 2, 3, 4, 5, 6, 7, 8, 9, 10, 11, 12, 13] rfl rfl (by decide) (by decide) (fun _ => rfl) (by decide) (runV (As := [.int x1]) (rest := []) C (hP.sub [5, 6, 7, 8, 9, 10, 11, 12, 13] rfl) (hD.sub [5, 6, 7, 8, 9, 10, 11, 12, 13] (by decide) rfl) (m_Uses_offerOf N gU υ x1  _ h H.size) kw_591 kw_592 kw_593 kw_7 kw_594 hd_Uses_offerOf ⟨Nat.le_of_ble_eq_true rfl, Nat.le_of_ble_eq_true rfl⟩ ⟨Nat.le_of_ble_eq_true rfl, Nat.le_of_ble_eq_true rfl⟩ 0 rfl rfl rfl rfl hl.1 (Nat.le_of_ble_eq_true rfl) d_Planner_fits_5) (fun r2 u1 H locs h hP hD hS => ?_)
  try dsimp only at h
  refine lv_istore_n (lv' := [(2, .int r2), (0, .ref (gL 0)), (1, .int x1)]) hx hb d_Planner_fits_8 rfl hl (by decide) rfl (fun ls hl => ?_)
  refine lv_aload_n hx hb d_Planner_fits_9 rfl (lv_at hl 1 rfl) ?_
  refine lv_iload_n hx hb d_Planner_fits_10 rfl (lv_at hl 0 rfl) ?_
  refine same_i C hP hD hS (runV (As := [.int r2]) (rest := []) C hP hD (m_Planner_isLimited N gL gU κ υ r2  _ h H.size) kw_595 kw_597 kp_15 kw_6 kw_598 hd_Planner_isLimited ⟨Nat.le_of_ble_eq_true rfl, Nat.le_of_ble_eq_true rfl⟩ ⟨Nat.le_of_ble_eq_true rfl, Nat.le_of_ble_eq_true rfl⟩ 0 rfl rfl rfl rfl hl.1 (Nat.le_of_ble_eq_true rfl) d_Planner_fits_11) (fun r4 u3 H locs h hP hD hS => ?_)
  replace hP : va_P D CL (wPlanner k gL κ (gU 0) ++ (wUses k gU υ)) H := hP
  replace hD : va_D A (wPlanner k gL κ (gU 0) ++ (wUses k gU υ)) := hD
  try dsimp only at h
  refine lv_if_eq (tgt := 31) hx hb d_Planner_fits_14 (by decide) (fun c5 => ?_) (fun c5 => ?_)
  · replace h := h.1 c5
    exact t_Planner_fits_31 C N κ υ post x1 _ _ _ hP hD hS (lv_sub hl [1, 2] rfl) h
  · replace h := h.2 c5
    refine lv_aload_n hx hb d_Planner_fits_17 rfl (lv_at hl 1 rfl) ?_
    refine va_get (D := D) (ci := 3) (v := .ref (gL 3)) (C := R_Planner) (T := F_Planner) (N := 6) hx hb hts in_Planner hown hK hP 0 rfl rfl 2 (by decide) (hts _ kw_160) (fun _ h9 => h9) rfl d_Planner_fits_18 ?_
    refine lv_bipush (v := 12) hx hb d_Planner_fits_21 (by decide) ?_
    refine lv_iload_n hx hb d_Planner_fits_23 rfl (lv_at hl 0 rfl) ?_
    refine lv_iadd hx hb d_Planner_fits_24 ?_
    obtain ⟨hi6, h⟩ := h
    refine va_iald hx hb hK hP 3 0 rfl rfl hi6 d_Planner_fits_25 ?_
    refine lv_if_ne (tgt := 31) hx hb d_Planner_fits_26 (by decide) (fun c7 => ?_) (fun c7 => ?_)
    · replace h := h.1 c7
      exact t_Planner_fits_31 C N κ υ post x1 _ _ _ hP hD hS (lv_sub hl [1, 2] rfl) h
    · replace h := h.2 c7
      refine lv_iconst (v := 0) hx hb d_Planner_fits_29 (by decide) ?_
      exact ret_z (u := ()) (wf := (fun u : Unit => wPlanner k gL κ (gU 0) ++ (wUses k gU υ))) C rfl hP hD hS (Nat.zero_le _) (Nat.zero_le _) h d_Planner_fits_30
set_option maxHeartbeats 4000000 in
set_option maxRecDepth 100000 in
theorem t_Planner_bestSaving_102 {p : Program} {l : Launch} {e : Env} {s : State} {m : MethodId} {args : Array Value} {below : List Frame} {meth : Method} {c : Code} {A : Nat → Prop} {D : va_G} {k : Nat → ClassId} {gL : Nat → Nat} {gU : Nat → Nat} (C : Cx p s m args meth c D k "PromotionTill$Planner" b_Planner_bestSaving 7 (some .int) A) (N : Nat) (κ : St) (υ : St) (post : Int32 → (Unit) → Prop) :
    ∀ (x3 : Int32) (H : Heap) (locs : List Loc) (ls : Array Slot), va_P D CL (wPlanner k gL κ (gU 0) ++ (wUses k gU υ)) H → va_D A (wPlanner k gL κ (gU 0) ++ (wUses k gU υ)) → va_S A s.heap H locs → lv_has ls 7 [(3, .int x3)] → wp_Planner_bestSaving_102 N κ υ post x3 → W p l e rm_Planner_bestSaving s m args below meth c H locs 0 0 (MQ below (va_Qi post (fun (u : Unit) t => va_P D CL (wPlanner k gL κ (gU 0) ++ (wUses k gU υ)) t.heap ∧ va_D A (wPlanner k gL κ (gU 0) ++ (wUses k gU υ))) A) args s rm_Planner_bestSaving.cells rm_Planner_bestSaving.slots A) (F0 m 102 ls []) := by
  obtain ⟨hx, hb, hr, hlk, hml, hown, hts, hK, hA⟩ := id C
  intro x3 H locs ls hP hD hS hl h
  unfold wp_Planner_bestSaving_102 at h
  refine lv_iload_n hx hb d_Planner_bestSaving_102 rfl (lv_at hl 0 rfl) ?_
  exact ret_i (u := ()) (wf := (fun u : Unit => wPlanner k gL κ (gU 0) ++ (wUses k gU υ))) C hP hD hS (Nat.zero_le _) (Nat.zero_le _) h d_Planner_bestSaving_103
set_option maxHeartbeats 4000000 in
set_option maxRecDepth 100000 in
theorem t_Planner_bestSaving_85 {p : Program} {l : Launch} {e : Env} {s : State} {m : MethodId} {args : Array Value} {below : List Frame} {meth : Method} {c : Code} {A : Nat → Prop} {D : va_G} {k : Nat → ClassId} {gL : Nat → Nat} {gU : Nat → Nat} (C : Cx p s m args meth c D k "PromotionTill$Planner" b_Planner_bestSaving 7 (some .int) A) (N : Nat) (κ : St) (υ : St) (post : Int32 → (Unit) → Prop) (K_38 : Int32 → Int32 → Int32 → Int32 → Prop) (hK_38 : ∀ (x1 : Int32) (x3 : Int32) (x4 : Int32) (x5 : Int32) (H : Heap) (locs : List Loc) (ls : Array Slot), va_P D CL (wPlanner k gL κ (gU 0) ++ (wUses k gU υ)) H → va_D A (wPlanner k gL κ (gU 0) ++ (wUses k gU υ)) → va_S A s.heap H locs → lv_has ls 7 [(0, .ref (gL 0)), (1, .int x1), (3, .int x3), (4, .int x4), (5, .int x5)] → K_38 x1 x3 x4 x5 → W p l e rm_Planner_bestSaving s m args below meth c H locs 0 0 (MQ below (va_Qi post (fun (u : Unit) t => va_P D CL (wPlanner k gL κ (gU 0) ++ (wUses k gU υ)) t.heap ∧ va_D A (wPlanner k gL κ (gU 0) ++ (wUses k gU υ))) A) args s rm_Planner_bestSaving.cells rm_Planner_bestSaving.slots A) (F0 m 38 ls [])) :
    ∀ (x1 : Int32) (x3 : Int32) (x4 : Int32) (x5 : Int32) (H : Heap) (locs : List Loc) (ls : Array Slot), va_P D CL (wPlanner k gL κ (gU 0) ++ (wUses k gU υ)) H → va_D A (wPlanner k gL κ (gU 0) ++ (wUses k gU υ)) → va_S A s.heap H locs → lv_has ls 7 [(0, .ref (gL 0)), (1, .int x1), (3, .int x3), (4, .int x4), (5, .int x5)] → wp_Planner_bestSaving_85 N κ υ post K_38 x1 x3 x4 x5 → W p l e rm_Planner_bestSaving s m args below meth c H locs 0 0 (MQ below (va_Qi post (fun (u : Unit) t => va_P D CL (wPlanner k gL κ (gU 0) ++ (wUses k gU υ)) t.heap ∧ va_D A (wPlanner k gL κ (gU 0) ++ (wUses k gU υ))) A) args s rm_Planner_bestSaving.cells rm_Planner_bestSaving.slots A) (F0 m 85 ls []) := by
  obtain ⟨hx, hb, hr, hlk, hml, hown, hts, hK, hA⟩ := id C
  intro x1 x3 x4 x5 H locs ls hP hD hS hl h
  unfold wp_Planner_bestSaving_85 at h
  refine lv_aload_n hx hb d_Planner_bestSaving_85 rfl (lv_at hl 0 rfl) ?_
  refine va_get (D := D) (ci := 3) (v := .ref (gU 0)) (C := R_Planner) (T := F_Planner) (N := 6) hx hb hts in_Planner hown hK hP 0 rfl rfl 4 (by decide) (hts _ kw_162) (fun _ h9 => h9) rfl d_Planner_bestSaving_86 ?_
  refine lv_iload hx hb d_Planner_bestSaving_89 (lv_at hl 3 rfl) ?_
  refine call_i (wr := [(gL 0, .inr (3, [.ref (gL 1), .ref (gL 2), .ref (gL 3), .ref (gL 4), .ref (gU 0), .int (κ 5 0)])), (gL 1, .inl (k 0, 18, .inl (κ 0))), (gL 2, .inl (k 0, 18, .inl (κ 1))), (gL 3, .inl (k 0, 18, .inl (κ 2))), (gL 4, .inl (k 0, 3000, .inl (κ 3)))]) (wn := (fun u19 : Unit => wPlanner k gL κ (gU 0) ++ (wUses k gU υ))) C hP hD hS [5, 6, 7, 8, 9, 10, 11, 12, 13] [0, 1, 2, 3, 4] [0, 1, 2, 3, 4, 5, 6, 7, 8, 9, 10, 11, 12, 13] rfl rfl (by decide) (by decide) (fun _ => rfl) (by decide) (runV (As := [.int x4]) (rest := []) C (hP.sub [5, 6, 7, 8, 9, 10, 11, 12, 13] rfl) (hD.sub [5, 6, 7, 8, 9, 10, 11, 12, 13] (by decide) rfl) (m_Uses_nextOf N gU υ x4  _ h H.size) kw_607 kw_608 kw_609 kw_7 kw_610 hd_Uses_nextOf ⟨Nat.le_of_ble_eq_true rfl, Nat.le_of_ble_eq_true rfl⟩ ⟨Nat.le_of_ble_eq_true rfl, Nat.le_of_ble_eq_true rfl⟩ 0 rfl rfl rfl rfl hl.1 (Nat.le_of_ble_eq_true rfl) d_Planner_bestSaving_91) (fun r20 u19 H locs h hP hD hS => ?_)
  try dsimp only at h
  refine lv_istore (lv' := [(4, .int r20), (0, .ref (gL 0)), (1, .int x1), (3, .int x3), (5, .int x5)]) hx hb d_Planner_bestSaving_94 hl (by decide) rfl (fun ls hl => ?_)
  refine lv_iinc (v := x5 + 1) (lv' := [(5, .int (x5 + 1)), (4, .int r20), (0, .ref (gL 0)), (1, .int x1), (3, .int x3)]) hx hb d_Planner_bestSaving_96 hl (k := 4) rfl rfl (by decide) rfl (fun ls hl => ?_)
  refine lv_goto (tgt := 38) hx hb d_Planner_bestSaving_99 (by decide) ?_
  exact hK_38 x1 x3 r20 (x5 + 1) _ _ _ hP hD hS (lv_sub hl [2, 3, 4, 1, 0] rfl) h
set_option maxHeartbeats 4000000 in
set_option maxRecDepth 100000 in
theorem t_Planner_bestSaving_38 {p : Program} {l : Launch} {e : Env} {s : State} {m : MethodId} {args : Array Value} {below : List Frame} {meth : Method} {c : Code} {A : Nat → Prop} {D : va_G} {k : Nat → ClassId} {gL : Nat → Nat} {gU : Nat → Nat} (C : Cx p s m args meth c D k "PromotionTill$Planner" b_Planner_bestSaving 7 (some .int) A) (N : Nat) (κ : St) (υ : St) (post : Int32 → (Unit) → Prop) :
    ∀ (n : Nat) (x1 : Int32) (x3 : Int32) (x4 : Int32) (x5 : Int32) (H : Heap) (locs : List Loc) (ls : Array Slot), va_P D CL (wPlanner k gL κ (gU 0) ++ (wUses k gU υ)) H → va_D A (wPlanner k gL κ (gU 0) ++ (wUses k gU υ)) → va_S A s.heap H locs → lv_has ls 7 [(0, .ref (gL 0)), (1, .int x1), (3, .int x3), (4, .int x4), (5, .int x5)] → wp_Planner_bestSaving_38 N κ υ post n x1 x3 x4 x5 → W p l e rm_Planner_bestSaving s m args below meth c H locs 0 0 (MQ below (va_Qi post (fun (u : Unit) t => va_P D CL (wPlanner k gL κ (gU 0) ++ (wUses k gU υ)) t.heap ∧ va_D A (wPlanner k gL κ (gU 0) ++ (wUses k gU υ))) A) args s rm_Planner_bestSaving.cells rm_Planner_bestSaving.slots A) (F0 m 38 ls []) := by
  obtain ⟨hx, hb, hr, hlk, hml, hown, hts, hK, hA⟩ := id C
  intro n
  induction n with
  | zero =>
    intro x1 x3 x4 x5 H locs ls hP hD hS hl h
    exact absurd h (by simp [wp_Planner_bestSaving_38])
  | succ n ih =>
    intro x1 x3 x4 x5 H locs ls hP hD hS hl h
    rw [wp_Planner_bestSaving_38] at h
    refine lv_iload hx hb d_Planner_bestSaving_38 (lv_at hl 4 rfl) ?_
    refine lv_sipush (v := 1260) hx hb d_Planner_bestSaving_40 (by decide) ?_
    refine lv_icmp_ge (tgt := 102) hx hb d_Planner_bestSaving_43 (by decide) (fun c9 => ?_) (fun c9 => ?_)
    · replace h := h.1 c9
      exact t_Planner_bestSaving_102 C N κ υ post x3 _ _ _ hP hD hS (lv_sub hl [2] rfl) h
    · replace h := h.2 c9
      refine lv_aload_n hx hb d_Planner_bestSaving_46 rfl (lv_at hl 0 rfl) ?_
      refine va_get (D := D) (ci := 3) (v := .ref (gU 0)) (C := R_Planner) (T := F_Planner) (N := 6) hx hb hts in_Planner hown hK hP 0 rfl rfl 4 (by decide) (hts _ kw_162) (fun _ h9 => h9) rfl d_Planner_bestSaving_47 ?_
      refine lv_iload hx hb d_Planner_bestSaving_50 (lv_at hl 3 rfl) ?_
      refine call_i (wr := [(gL 0, .inr (3, [.ref (gL 1), .ref (gL 2), .ref (gL 3), .ref (gL 4), .ref (gU 0), .int (κ 5 0)])), (gL 1, .inl (k 0, 18, .inl (κ 0))), (gL 2, .inl (k 0, 18, .inl (κ 1))), (gL 3, .inl (k 0, 18, .inl (κ 2))), (gL 4, .inl (k 0, 3000, .inl (κ 3)))]) (wn := (fun u10 : Unit => wPlanner k gL κ (gU 0) ++ (wUses k gU υ))) C hP hD hS [5, 6, 7, 8, 9, 10, 11, 12, 13] [0, 1, 2, 3, 4] [0, 1, 2, 3, 4, 5, 6, 7, 8, 9, 10, 11, 12, 13] rfl rfl (by decide) (by decide) (fun _ => rfl) (by decide) (runV (As := [.int x4]) (rest := []) C (hP.sub [5, 6, 7, 8, 9, 10, 11, 12, 13] rfl) (hD.sub [5, 6, 7, 8, 9, 10, 11, 12, 13] (by decide) rfl) (m_Uses_has N gU υ x4  _ h H.size) kw_571 kw_572 kw_573 kw_7 kw_574 hd_Uses_has ⟨Nat.le_of_ble_eq_true rfl, Nat.le_of_ble_eq_true rfl⟩ ⟨Nat.le_of_ble_eq_true rfl, Nat.le_of_ble_eq_true rfl⟩ 0 rfl rfl rfl rfl hl.1 (Nat.le_of_ble_eq_true rfl) d_Planner_bestSaving_52) (fun r11 u10 H locs h hP hD hS => ?_)
      try dsimp only at h
      refine lv_if_eq (tgt := 102) hx hb d_Planner_bestSaving_55 (by decide) (fun c12 => ?_) (fun c12 => ?_)
      · replace h := h.1 c12
        exact t_Planner_bestSaving_102 C N κ υ post x3 _ _ _ hP hD hS (lv_sub hl [2] rfl) h
      · replace h := h.2 c12
        refine lv_aload_n hx hb d_Planner_bestSaving_58 rfl (lv_at hl 0 rfl) ?_
        refine lv_iload_n hx hb d_Planner_bestSaving_59 rfl (lv_at hl 1 rfl) ?_
        refine lv_iload hx hb d_Planner_bestSaving_60 (lv_at hl 3 rfl) ?_
        refine same_i C hP hD hS (runV (As := [.int x1, .int x4]) (rest := []) C hP hD (m_Planner_savingBehind N gL gU κ υ x1 x4  _ h H.size) kw_575 kw_577 kp_13 kw_6 kw_578 hd_Planner_savingBehind ⟨Nat.le_of_ble_eq_true rfl, Nat.le_of_ble_eq_true rfl⟩ ⟨Nat.le_of_ble_eq_true rfl, Nat.le_of_ble_eq_true rfl⟩ 0 rfl rfl rfl rfl hl.1 (Nat.le_of_ble_eq_true rfl) d_Planner_bestSaving_62) (fun r14 u13 H locs h hP hD hS => ?_)
        replace hP : va_P D CL (wPlanner k gL κ (gU 0) ++ (wUses k gU υ)) H := hP
        replace hD : va_D A (wPlanner k gL κ (gU 0) ++ (wUses k gU υ)) := hD
        try dsimp only at h
        refine lv_istore (lv' := [(6, .int r14), (0, .ref (gL 0)), (1, .int x1), (3, .int x3), (4, .int x4), (5, .int x5)]) hx hb d_Planner_bestSaving_65 hl (by decide) rfl (fun ls hl => ?_)
        refine lv_iload hx hb d_Planner_bestSaving_67 (lv_at hl 0 rfl) ?_
        refine lv_iload_n hx hb d_Planner_bestSaving_69 rfl (lv_at hl 3 rfl) ?_
        refine lv_icmp_le (tgt := 85) hx hb d_Planner_bestSaving_70 (by decide) (fun c15 => ?_) (fun c15 => ?_)
        · replace h := h.1 c15
          exact t_Planner_bestSaving_85 C N κ υ post (wp_Planner_bestSaving_38 N κ υ post n) ih x1 x3 x4 x5 _ _ _ hP hD hS (lv_sub hl [1, 2, 3, 4, 5] rfl) h
        · replace h := h.2 c15
          refine lv_aload_n hx hb d_Planner_bestSaving_73 rfl (lv_at hl 1 rfl) ?_
          refine lv_iload hx hb d_Planner_bestSaving_74 (lv_at hl 4 rfl) ?_
          refine same_i C hP hD hS (runV (As := [.int x4]) (rest := []) C hP hD (m_Planner_fits N gL gU κ υ x4  _ h H.size) kw_587 kw_589 kp_14 kw_6 kw_590 hd_Planner_fits ⟨Nat.le_of_ble_eq_true rfl, Nat.le_of_ble_eq_true rfl⟩ ⟨Nat.le_of_ble_eq_true rfl, Nat.le_of_ble_eq_true rfl⟩ 0 rfl rfl rfl rfl hl.1 (Nat.le_of_ble_eq_true rfl) d_Planner_bestSaving_76) (fun r17 u16 H locs h hP hD hS => ?_)
          replace hP : va_P D CL (wPlanner k gL κ (gU 0) ++ (wUses k gU υ)) H := hP
          replace hD : va_D A (wPlanner k gL κ (gU 0) ++ (wUses k gU υ)) := hD
          try dsimp only at h
          refine lv_if_eq (tgt := 85) hx hb d_Planner_bestSaving_79 (by decide) (fun c18 => ?_) (fun c18 => ?_)
          · replace h := h.1 c18
            exact t_Planner_bestSaving_85 C N κ υ post (wp_Planner_bestSaving_38 N κ υ post n) ih x1 x3 x4 x5 _ _ _ hP hD hS (lv_sub hl [1, 2, 3, 4, 5] rfl) h
          · replace h := h.2 c18
            refine lv_iload hx hb d_Planner_bestSaving_82 (lv_at hl 0 rfl) ?_
            refine lv_istore_n (lv' := [(3, .int r14), (6, .int r14), (0, .ref (gL 0)), (1, .int x1), (4, .int x4), (5, .int x5)]) hx hb d_Planner_bestSaving_84 rfl hl (by decide) rfl (fun ls hl => ?_)
            exact t_Planner_bestSaving_85 C N κ υ post (wp_Planner_bestSaving_38 N κ υ post n) ih x1 r14 x4 x5 _ _ _ hP hD hS (lv_sub hl [2, 3, 0, 4, 5] rfl) h
set_option maxHeartbeats 4000000 in
set_option maxRecDepth 100000 in
theorem m_Planner_bestSaving {l : Launch} {D : va_G} {k : Nat → ClassId} (N : Nat) (gL : Nat → Nat) (gU : Nat → Nat) (κ : St) (υ : St) (x1 : Int32) (post : Int32 → (Unit) → Prop) (h : wp_Planner_bestSaving N  κ υ x1 post) : Ci l D k y_Planner_bestSaving b_Planner_bestSaving 7 .int rm_Planner_bestSaving [.ref (gL 0), .int x1] (wPlanner k gL κ (gU 0) ++ (wUses k gU υ)) (fun u : Unit => wPlanner k gL κ (gU 0) ++ (wUses k gU υ)) post := by
  refine Ci.of (by decide) (Nat.le_of_ble_eq_true rfl) ?_
  intro p e s m below meth c A H locs ls C hP hD hS hl
  obtain ⟨hx, hb, hr, hlk, hml, hown, hts, hK, hA⟩ := id C
  replace hl : lv_has ls 7 [(0, .ref (gL 0)), (1, .int x1)] := hl
  unfold wp_Planner_bestSaving at h
  refine lv_aload_n hx hb d_Planner_bestSaving_0 rfl (lv_at hl 0 rfl) ?_
  refine same_i C hP hD hS (runV (As := []) (rest := []) C hP hD (m_Planner_leastLeft N gL gU κ υ   _ h H.size) kw_559 kw_561 kp_11 kw_6 kw_562 hd_Planner_leastLeft ⟨Nat.le_of_ble_eq_true rfl, Nat.le_of_ble_eq_true rfl⟩ ⟨Nat.le_of_ble_eq_true rfl, Nat.le_of_ble_eq_true rfl⟩ 0 rfl rfl rfl rfl hl.1 (Nat.le_of_ble_eq_true rfl) d_Planner_bestSaving_1) (fun r2 u1 H locs h hP hD hS => ?_)
  replace hP : va_P D CL (wPlanner k gL κ (gU 0) ++ (wUses k gU υ)) H := hP
  replace hD : va_D A (wPlanner k gL κ (gU 0) ++ (wUses k gU υ)) := hD
  try dsimp only at h
  refine lv_istore_n (lv' := [(2, .int r2), (0, .ref (gL 0)), (1, .int x1)]) hx hb d_Planner_bestSaving_4 rfl hl (by decide) rfl (fun ls hl => ?_)
  refine lv_iload_n hx hb d_Planner_bestSaving_5 rfl (lv_at hl 0 rfl) ?_
  refine lv_iconst (v := (-1)) hx hb d_Planner_bestSaving_6 (by decide) ?_
  refine lv_icmp_ne (tgt := 12) hx hb d_Planner_bestSaving_7 (by decide) (fun c3 => ?_) (fun c3 => ?_)
  · replace h := h.1 c3
    refine lv_aload_n hx hb d_Planner_bestSaving_12 rfl (lv_at hl 1 rfl) ?_
    refine lv_iload_n hx hb d_Planner_bestSaving_13 rfl (lv_at hl 2 rfl) ?_
    refine lv_aload_n hx hb d_Planner_bestSaving_14 rfl (lv_at hl 1 rfl) ?_
    refine va_get (D := D) (ci := 3) (v := .ref (gL 2)) (C := R_Planner) (T := F_Planner) (N := 6) hx hb hts in_Planner hown hK hP 0 rfl rfl 1 (by decide) (hts _ kw_159) (fun _ h9 => h9) rfl d_Planner_bestSaving_15 ?_
    refine lv_iload_n hx hb d_Planner_bestSaving_18 rfl (lv_at hl 0 rfl) ?_
    obtain ⟨hi4, h⟩ := h
    refine va_iald hx hb hK hP 2 0 rfl rfl hi4 d_Planner_bestSaving_19 ?_
    refine lv_isub hx hb d_Planner_bestSaving_20 ?_
    refine same_i C hP hD hS (runV (As := [.int (x1 - (κ 1 (Int32.toNatClampNeg r2)))]) (rest := []) C hP hD (m_Planner_savedAt N gL gU κ υ (x1 - (κ 1 (Int32.toNatClampNeg r2)))  _ h H.size) kw_563 kw_565 kp_12 kw_6 kw_566 hd_Planner_savedAt ⟨Nat.le_of_ble_eq_true rfl, Nat.le_of_ble_eq_true rfl⟩ ⟨Nat.le_of_ble_eq_true rfl, Nat.le_of_ble_eq_true rfl⟩ 0 rfl rfl rfl rfl hl.1 (Nat.le_of_ble_eq_true rfl) d_Planner_bestSaving_21) (fun r6 u5 H locs h hP hD hS => ?_)
    replace hP : va_P D CL (wPlanner k gL κ (gU 0) ++ (wUses k gU υ)) H := hP
    replace hD : va_D A (wPlanner k gL κ (gU 0) ++ (wUses k gU υ)) := hD
    try dsimp only at h
    refine lv_istore_n (lv' := [(3, .int r6), (2, .int r2), (0, .ref (gL 0)), (1, .int x1)]) hx hb d_Planner_bestSaving_24 rfl hl (by decide) rfl (fun ls hl => ?_)
    refine lv_aload_n hx hb d_Planner_bestSaving_25 rfl (lv_at hl 2 rfl) ?_
    refine va_get (D := D) (ci := 3) (v := .ref (gU 0)) (C := R_Planner) (T := F_Planner) (N := 6) hx hb hts in_Planner hown hK hP 0 rfl rfl 4 (by decide) (hts _ kw_162) (fun _ h9 => h9) rfl d_Planner_bestSaving_26 ?_
    refine lv_iload_n hx hb d_Planner_bestSaving_29 rfl (lv_at hl 1 rfl) ?_
    refine call_i (wr := [(gL 0, .inr (3, [.ref (gL 1), .ref (gL 2), .ref (gL 3), .ref (gL 4), .ref (gU 0), .int (κ 5 0)])), (gL 1, .inl (k 0, 18, .inl (κ 0))), (gL 2, .inl (k 0, 18, .inl (κ 1))), (gL 3, .inl (k 0, 18, .inl (κ 2))), (gL 4, .inl (k 0, 3000, .inl (κ 3)))]) (wn := (fun u7 : Unit => wPlanner k gL κ (gU 0) ++ (wUses k gU υ))) C hP hD hS [5, 6, 7, 8, 9, 10, 11, 12, 13] [0, 1, 2, 3, 4] [0, 1, 2, 3, 4, 5, 6, 7, 8, 9, 10, 11, 12, 13] rfl rfl (by decide) (by decide) (fun _ => rfl) (by decide) (runV (As := [.int r2]) (rest := []) C (hP.sub [5, 6, 7, 8, 9, 10, 11, 12, 13] rfl) (hD.sub [5, 6, 7, 8, 9, 10, 11, 12, 13] (by decide) rfl) (m_Uses_firstWith N gU υ r2  _ h H.size) kw_567 kw_568 kw_569 kw_7 kw_570 hd_Uses_firstWith ⟨Nat.le_of_ble_eq_true rfl, Nat.le_of_ble_eq_true rfl⟩ ⟨Nat.le_of_ble_eq_true rfl, Nat.le_of_ble_eq_true rfl⟩ 0 rfl rfl rfl rfl hl.1 (Nat.le_of_ble_eq_true rfl) d_Planner_bestSaving_30) (fun r8 u7 H locs h hP hD hS => ?_)
    try dsimp only at h
    refine lv_istore (lv' := [(4, .int r8), (3, .int r6), (2, .int r2), (0, .ref (gL 0)), (1, .int x1)]) hx hb d_Planner_bestSaving_33 hl (by decide) rfl (fun ls hl => ?_)
    refine lv_iconst (v := 0) hx hb d_Planner_bestSaving_35 (by decide) ?_
    refine lv_istore (lv' := [(5, .int 0), (4, .int r8), (3, .int r6), (2, .int r2), (0, .ref (gL 0)), (1, .int x1)]) hx hb d_Planner_bestSaving_36 hl (by decide) rfl (fun ls hl => ?_)
    exact t_Planner_bestSaving_38 C N κ υ post   N x1 r6 r8 0 _ _ _ hP hD hS (lv_sub hl [4, 5, 2, 1, 0] rfl) h
  · replace h := h.2 c3
    refine lv_iconst (v := 0) hx hb d_Planner_bestSaving_10 (by decide) ?_
    exact ret_i (u := ()) (wf := (fun u : Unit => wPlanner k gL κ (gU 0) ++ (wUses k gU υ))) C hP hD hS (Nat.zero_le _) (Nat.zero_le _) h d_Planner_bestSaving_11
set_option maxHeartbeats 4000000 in
set_option maxRecDepth 100000 in
theorem t_Planner_firstBestUse_97 {p : Program} {l : Launch} {e : Env} {s : State} {m : MethodId} {args : Array Value} {below : List Frame} {meth : Method} {c : Code} {A : Nat → Prop} {D : va_G} {k : Nat → ClassId} {gL : Nat → Nat} {gU : Nat → Nat} (C : Cx p s m args meth c D k "PromotionTill$Planner" b_Planner_firstBestUse 6 (some .int) A) (N : Nat) (κ : St) (υ : St) (post : Int32 → (Unit) → Prop) :
    ∀  (H : Heap) (locs : List Loc) (ls : Array Slot), va_P D CL (wPlanner k gL κ (gU 0) ++ (wUses k gU υ)) H → va_D A (wPlanner k gL κ (gU 0) ++ (wUses k gU υ)) → va_S A s.heap H locs → lv_has ls 6 [] → wp_Planner_firstBestUse_97 N κ υ post  → W p l e rm_Planner_firstBestUse s m args below meth c H locs 0 0 (MQ below (va_Qi post (fun (u : Unit) t => va_P D CL (wPlanner k gL κ (gU 0) ++ (wUses k gU υ)) t.heap ∧ va_D A (wPlanner k gL κ (gU 0) ++ (wUses k gU υ))) A) args s rm_Planner_firstBestUse.cells rm_Planner_firstBestUse.slots A) (F0 m 97 ls []) := by
  obtain ⟨hx, hb, hr, hlk, hml, hown, hts, hK, hA⟩ := id C
  intro  H locs ls hP hD hS hl h
  unfold wp_Planner_firstBestUse_97 at h
  refine lv_iconst (v := (-1)) hx hb d_Planner_firstBestUse_97 (by decide) ?_
  exact ret_i (u := ()) (wf := (fun u : Unit => wPlanner k gL κ (gU 0) ++ (wUses k gU υ))) C hP hD hS (Nat.zero_le _) (Nat.zero_le _) h d_Planner_firstBestUse_98
set_option maxHeartbeats 4000000 in
set_option maxRecDepth 100000 in
theorem t_Planner_firstBestUse_80 {p : Program} {l : Launch} {e : Env} {s : State} {m : MethodId} {args : Array Value} {below : List Frame} {meth : Method} {c : Code} {A : Nat → Prop} {D : va_G} {k : Nat → ClassId} {gL : Nat → Nat} {gU : Nat → Nat} (C : Cx p s m args meth c D k "PromotionTill$Planner" b_Planner_firstBestUse 6 (some .int) A) (N : Nat) (κ : St) (υ : St) (post : Int32 → (Unit) → Prop) (K_37 : Int32 → Int32 → Int32 → Int32 → Prop) (hK_37 : ∀ (x1 : Int32) (x3 : Int32) (x4 : Int32) (x5 : Int32) (H : Heap) (locs : List Loc) (ls : Array Slot), va_P D CL (wPlanner k gL κ (gU 0) ++ (wUses k gU υ)) H → va_D A (wPlanner k gL κ (gU 0) ++ (wUses k gU υ)) → va_S A s.heap H locs → lv_has ls 6 [(0, .ref (gL 0)), (1, .int x1), (3, .int x3), (4, .int x4), (5, .int x5)] → K_37 x1 x3 x4 x5 → W p l e rm_Planner_firstBestUse s m args below meth c H locs 0 0 (MQ below (va_Qi post (fun (u : Unit) t => va_P D CL (wPlanner k gL κ (gU 0) ++ (wUses k gU υ)) t.heap ∧ va_D A (wPlanner k gL κ (gU 0) ++ (wUses k gU υ))) A) args s rm_Planner_firstBestUse.cells rm_Planner_firstBestUse.slots A) (F0 m 37 ls [])) :
    ∀ (x1 : Int32) (x3 : Int32) (x4 : Int32) (x5 : Int32) (H : Heap) (locs : List Loc) (ls : Array Slot), va_P D CL (wPlanner k gL κ (gU 0) ++ (wUses k gU υ)) H → va_D A (wPlanner k gL κ (gU 0) ++ (wUses k gU υ)) → va_S A s.heap H locs → lv_has ls 6 [(0, .ref (gL 0)), (1, .int x1), (3, .int x3), (4, .int x4), (5, .int x5)] → wp_Planner_firstBestUse_80 N κ υ post K_37 x1 x3 x4 x5 → W p l e rm_Planner_firstBestUse s m args below meth c H locs 0 0 (MQ below (va_Qi post (fun (u : Unit) t => va_P D CL (wPlanner k gL κ (gU 0) ++ (wUses k gU υ)) t.heap ∧ va_D A (wPlanner k gL κ (gU 0) ++ (wUses k gU υ))) A) args s rm_Planner_firstBestUse.cells rm_Planner_firstBestUse.slots A) (F0 m 80 ls []) := by
  obtain ⟨hx, hb, hr, hlk, hml, hown, hts, hK, hA⟩ := id C
  intro x1 x3 x4 x5 H locs ls hP hD hS hl h
  unfold wp_Planner_firstBestUse_80 at h
  refine lv_aload_n hx hb d_Planner_firstBestUse_80 rfl (lv_at hl 0 rfl) ?_
  refine va_get (D := D) (ci := 3) (v := .ref (gU 0)) (C := R_Planner) (T := F_Planner) (N := 6) hx hb hts in_Planner hown hK hP 0 rfl rfl 4 (by decide) (hts _ kw_162) (fun _ h9 => h9) rfl d_Planner_firstBestUse_81 ?_
  refine lv_iload hx hb d_Planner_firstBestUse_84 (lv_at hl 3 rfl) ?_
  refine call_i (wr := [(gL 0, .inr (3, [.ref (gL 1), .ref (gL 2), .ref (gL 3), .ref (gL 4), .ref (gU 0), .int (κ 5 0)])), (gL 1, .inl (k 0, 18, .inl (κ 0))), (gL 2, .inl (k 0, 18, .inl (κ 1))), (gL 3, .inl (k 0, 18, .inl (κ 2))), (gL 4, .inl (k 0, 3000, .inl (κ 3)))]) (wn := (fun u19 : Unit => wPlanner k gL κ (gU 0) ++ (wUses k gU υ))) C hP hD hS [5, 6, 7, 8, 9, 10, 11, 12, 13] [0, 1, 2, 3, 4] [0, 1, 2, 3, 4, 5, 6, 7, 8, 9, 10, 11, 12, 13] rfl rfl (by decide) (by decide) (fun _ => rfl) (by decide) (runV (As := [.int x4]) (rest := []) C (hP.sub [5, 6, 7, 8, 9, 10, 11, 12, 13] rfl) (hD.sub [5, 6, 7, 8, 9, 10, 11, 12, 13] (by decide) rfl) (m_Uses_nextOf N gU υ x4  _ h H.size) kw_607 kw_608 kw_609 kw_7 kw_610 hd_Uses_nextOf ⟨Nat.le_of_ble_eq_true rfl, Nat.le_of_ble_eq_true rfl⟩ ⟨Nat.le_of_ble_eq_true rfl, Nat.le_of_ble_eq_true rfl⟩ 0 rfl rfl rfl rfl hl.1 (Nat.le_of_ble_eq_true rfl) d_Planner_firstBestUse_86) (fun r20 u19 H locs h hP hD hS => ?_)
  try dsimp only at h
  refine lv_istore (lv' := [(4, .int r20), (0, .ref (gL 0)), (1, .int x1), (3, .int x3), (5, .int x5)]) hx hb d_Planner_firstBestUse_89 hl (by decide) rfl (fun ls hl => ?_)
  refine lv_iinc (v := x5 + 1) (lv' := [(5, .int (x5 + 1)), (4, .int r20), (0, .ref (gL 0)), (1, .int x1), (3, .int x3)]) hx hb d_Planner_firstBestUse_91 hl (k := 4) rfl rfl (by decide) rfl (fun ls hl => ?_)
  refine lv_goto (tgt := 37) hx hb d_Planner_firstBestUse_94 (by decide) ?_
  exact hK_37 x1 x3 r20 (x5 + 1) _ _ _ hP hD hS (lv_sub hl [2, 3, 4, 1, 0] rfl) h
set_option maxHeartbeats 4000000 in
set_option maxRecDepth 100000 in
theorem t_Planner_firstBestUse_37 {p : Program} {l : Launch} {e : Env} {s : State} {m : MethodId} {args : Array Value} {below : List Frame} {meth : Method} {c : Code} {A : Nat → Prop} {D : va_G} {k : Nat → ClassId} {gL : Nat → Nat} {gU : Nat → Nat} (C : Cx p s m args meth c D k "PromotionTill$Planner" b_Planner_firstBestUse 6 (some .int) A) (N : Nat) (κ : St) (υ : St) (post : Int32 → (Unit) → Prop) :
    ∀ (n : Nat) (x1 : Int32) (x3 : Int32) (x4 : Int32) (x5 : Int32) (H : Heap) (locs : List Loc) (ls : Array Slot), va_P D CL (wPlanner k gL κ (gU 0) ++ (wUses k gU υ)) H → va_D A (wPlanner k gL κ (gU 0) ++ (wUses k gU υ)) → va_S A s.heap H locs → lv_has ls 6 [(0, .ref (gL 0)), (1, .int x1), (3, .int x3), (4, .int x4), (5, .int x5)] → wp_Planner_firstBestUse_37 N κ υ post n x1 x3 x4 x5 → W p l e rm_Planner_firstBestUse s m args below meth c H locs 0 0 (MQ below (va_Qi post (fun (u : Unit) t => va_P D CL (wPlanner k gL κ (gU 0) ++ (wUses k gU υ)) t.heap ∧ va_D A (wPlanner k gL κ (gU 0) ++ (wUses k gU υ))) A) args s rm_Planner_firstBestUse.cells rm_Planner_firstBestUse.slots A) (F0 m 37 ls []) := by
  obtain ⟨hx, hb, hr, hlk, hml, hown, hts, hK, hA⟩ := id C
  intro n
  induction n with
  | zero =>
    intro x1 x3 x4 x5 H locs ls hP hD hS hl h
    exact absurd h (by simp [wp_Planner_firstBestUse_37])
  | succ n ih =>
    intro x1 x3 x4 x5 H locs ls hP hD hS hl h
    rw [wp_Planner_firstBestUse_37] at h
    refine lv_iload hx hb d_Planner_firstBestUse_37 (lv_at hl 4 rfl) ?_
    refine lv_sipush (v := 1260) hx hb d_Planner_firstBestUse_39 (by decide) ?_
    refine lv_icmp_ge (tgt := 97) hx hb d_Planner_firstBestUse_42 (by decide) (fun c9 => ?_) (fun c9 => ?_)
    · replace h := h.1 c9
      exact t_Planner_firstBestUse_97 C N κ υ post  _ _ _ hP hD hS (lv_sub hl [] rfl) h
    · replace h := h.2 c9
      refine lv_aload_n hx hb d_Planner_firstBestUse_45 rfl (lv_at hl 0 rfl) ?_
      refine va_get (D := D) (ci := 3) (v := .ref (gU 0)) (C := R_Planner) (T := F_Planner) (N := 6) hx hb hts in_Planner hown hK hP 0 rfl rfl 4 (by decide) (hts _ kw_162) (fun _ h9 => h9) rfl d_Planner_firstBestUse_46 ?_
      refine lv_iload hx hb d_Planner_firstBestUse_49 (lv_at hl 3 rfl) ?_
      refine call_i (wr := [(gL 0, .inr (3, [.ref (gL 1), .ref (gL 2), .ref (gL 3), .ref (gL 4), .ref (gU 0), .int (κ 5 0)])), (gL 1, .inl (k 0, 18, .inl (κ 0))), (gL 2, .inl (k 0, 18, .inl (κ 1))), (gL 3, .inl (k 0, 18, .inl (κ 2))), (gL 4, .inl (k 0, 3000, .inl (κ 3)))]) (wn := (fun u10 : Unit => wPlanner k gL κ (gU 0) ++ (wUses k gU υ))) C hP hD hS [5, 6, 7, 8, 9, 10, 11, 12, 13] [0, 1, 2, 3, 4] [0, 1, 2, 3, 4, 5, 6, 7, 8, 9, 10, 11, 12, 13] rfl rfl (by decide) (by decide) (fun _ => rfl) (by decide) (runV (As := [.int x4]) (rest := []) C (hP.sub [5, 6, 7, 8, 9, 10, 11, 12, 13] rfl) (hD.sub [5, 6, 7, 8, 9, 10, 11, 12, 13] (by decide) rfl) (m_Uses_has N gU υ x4  _ h H.size) kw_571 kw_572 kw_573 kw_7 kw_574 hd_Uses_has ⟨Nat.le_of_ble_eq_true rfl, Nat.le_of_ble_eq_true rfl⟩ ⟨Nat.le_of_ble_eq_true rfl, Nat.le_of_ble_eq_true rfl⟩ 0 rfl rfl rfl rfl hl.1 (Nat.le_of_ble_eq_true rfl) d_Planner_firstBestUse_51) (fun r11 u10 H locs h hP hD hS => ?_)
      try dsimp only at h
      refine lv_if_eq (tgt := 97) hx hb d_Planner_firstBestUse_54 (by decide) (fun c12 => ?_) (fun c12 => ?_)
      · replace h := h.1 c12
        exact t_Planner_firstBestUse_97 C N κ υ post  _ _ _ hP hD hS (lv_sub hl [] rfl) h
      · replace h := h.2 c12
        refine lv_aload_n hx hb d_Planner_firstBestUse_57 rfl (lv_at hl 0 rfl) ?_
        refine lv_iload_n hx hb d_Planner_firstBestUse_58 rfl (lv_at hl 1 rfl) ?_
        refine lv_iload hx hb d_Planner_firstBestUse_59 (lv_at hl 3 rfl) ?_
        refine same_i C hP hD hS (runV (As := [.int x1, .int x4]) (rest := []) C hP hD (m_Planner_savingBehind N gL gU κ υ x1 x4  _ h H.size) kw_575 kw_577 kp_13 kw_6 kw_578 hd_Planner_savingBehind ⟨Nat.le_of_ble_eq_true rfl, Nat.le_of_ble_eq_true rfl⟩ ⟨Nat.le_of_ble_eq_true rfl, Nat.le_of_ble_eq_true rfl⟩ 0 rfl rfl rfl rfl hl.1 (Nat.le_of_ble_eq_true rfl) d_Planner_firstBestUse_61) (fun r14 u13 H locs h hP hD hS => ?_)
        replace hP : va_P D CL (wPlanner k gL κ (gU 0) ++ (wUses k gU υ)) H := hP
        replace hD : va_D A (wPlanner k gL κ (gU 0) ++ (wUses k gU υ)) := hD
        try dsimp only at h
        refine lv_iload_n hx hb d_Planner_firstBestUse_64 rfl (lv_at hl 2 rfl) ?_
        refine lv_icmp_ne (tgt := 80) hx hb d_Planner_firstBestUse_65 (by decide) (fun c15 => ?_) (fun c15 => ?_)
        · replace h := h.1 c15
          exact t_Planner_firstBestUse_80 C N κ υ post (wp_Planner_firstBestUse_37 N κ υ post n) ih x1 x3 x4 x5 _ _ _ hP hD hS (lv_sub hl [0, 1, 2, 3, 4] rfl) h
        · replace h := h.2 c15
          refine lv_aload_n hx hb d_Planner_firstBestUse_68 rfl (lv_at hl 0 rfl) ?_
          refine lv_iload hx hb d_Planner_firstBestUse_69 (lv_at hl 3 rfl) ?_
          refine same_i C hP hD hS (runV (As := [.int x4]) (rest := []) C hP hD (m_Planner_fits N gL gU κ υ x4  _ h H.size) kw_587 kw_589 kp_14 kw_6 kw_590 hd_Planner_fits ⟨Nat.le_of_ble_eq_true rfl, Nat.le_of_ble_eq_true rfl⟩ ⟨Nat.le_of_ble_eq_true rfl, Nat.le_of_ble_eq_true rfl⟩ 0 rfl rfl rfl rfl hl.1 (Nat.le_of_ble_eq_true rfl) d_Planner_firstBestUse_71) (fun r17 u16 H locs h hP hD hS => ?_)
          replace hP : va_P D CL (wPlanner k gL κ (gU 0) ++ (wUses k gU υ)) H := hP
          replace hD : va_D A (wPlanner k gL κ (gU 0) ++ (wUses k gU υ)) := hD
          try dsimp only at h
          refine lv_if_eq (tgt := 80) hx hb d_Planner_firstBestUse_74 (by decide) (fun c18 => ?_) (fun c18 => ?_)
          · replace h := h.1 c18
            exact t_Planner_firstBestUse_80 C N κ υ post (wp_Planner_firstBestUse_37 N κ υ post n) ih x1 x3 x4 x5 _ _ _ hP hD hS (lv_sub hl [0, 1, 2, 3, 4] rfl) h
          · replace h := h.2 c18
            refine lv_iload hx hb d_Planner_firstBestUse_77 (lv_at hl 3 rfl) ?_
            exact ret_i (u := ()) (wf := (fun u : Unit => wPlanner k gL κ (gU 0) ++ (wUses k gU υ))) C hP hD hS (Nat.zero_le _) (Nat.zero_le _) h d_Planner_firstBestUse_79
set_option maxHeartbeats 4000000 in
set_option maxRecDepth 100000 in
theorem m_Planner_firstBestUse {l : Launch} {D : va_G} {k : Nat → ClassId} (N : Nat) (gL : Nat → Nat) (gU : Nat → Nat) (κ : St) (υ : St) (x1 : Int32) (x2 : Int32) (post : Int32 → (Unit) → Prop) (h : wp_Planner_firstBestUse N  κ υ x1 x2 post) : Ci l D k y_Planner_firstBestUse b_Planner_firstBestUse 6 .int rm_Planner_firstBestUse [.ref (gL 0), .int x1, .int x2] (wPlanner k gL κ (gU 0) ++ (wUses k gU υ)) (fun u : Unit => wPlanner k gL κ (gU 0) ++ (wUses k gU υ)) post := by
  refine Ci.of (by decide) (Nat.le_of_ble_eq_true rfl) ?_
  intro p e s m below meth c A H locs ls C hP hD hS hl
  obtain ⟨hx, hb, hr, hlk, hml, hown, hts, hK, hA⟩ := id C
  replace hl : lv_has ls 6 [(0, .ref (gL 0)), (1, .int x1), (2, .int x2)] := hl
  unfold wp_Planner_firstBestUse at h
  refine lv_aload_n hx hb d_Planner_firstBestUse_0 rfl (lv_at hl 0 rfl) ?_
  refine lv_iload_n hx hb d_Planner_firstBestUse_1 rfl (lv_at hl 1 rfl) ?_
  refine same_i C hP hD hS (runV (As := [.int x1]) (rest := []) C hP hD (m_Planner_savedAt N gL gU κ υ x1  _ h H.size) kw_563 kw_565 kp_12 kw_6 kw_566 hd_Planner_savedAt ⟨Nat.le_of_ble_eq_true rfl, Nat.le_of_ble_eq_true rfl⟩ ⟨Nat.le_of_ble_eq_true rfl, Nat.le_of_ble_eq_true rfl⟩ 0 rfl rfl rfl rfl hl.1 (Nat.le_of_ble_eq_true rfl) d_Planner_firstBestUse_2) (fun r2 u1 H locs h hP hD hS => ?_)
  replace hP : va_P D CL (wPlanner k gL κ (gU 0) ++ (wUses k gU υ)) H := hP
  replace hD : va_D A (wPlanner k gL κ (gU 0) ++ (wUses k gU υ)) := hD
  try dsimp only at h
  refine lv_istore_n (lv' := [(3, .int r2), (0, .ref (gL 0)), (1, .int x1), (2, .int x2)]) hx hb d_Planner_firstBestUse_5 rfl hl (by decide) rfl (fun ls hl => ?_)
  refine lv_aload_n hx hb d_Planner_firstBestUse_6 rfl (lv_at hl 1 rfl) ?_
  refine lv_iload_n hx hb d_Planner_firstBestUse_7 rfl (lv_at hl 2 rfl) ?_
  refine lv_aload_n hx hb d_Planner_firstBestUse_8 rfl (lv_at hl 1 rfl) ?_
  refine va_get (D := D) (ci := 3) (v := .ref (gL 2)) (C := R_Planner) (T := F_Planner) (N := 6) hx hb hts in_Planner hown hK hP 0 rfl rfl 1 (by decide) (hts _ kw_159) (fun _ h9 => h9) rfl d_Planner_firstBestUse_9 ?_
  refine lv_iload_n hx hb d_Planner_firstBestUse_12 rfl (lv_at hl 3 rfl) ?_
  obtain ⟨hi3, h⟩ := h
  refine va_iald hx hb hK hP 2 0 rfl rfl hi3 d_Planner_firstBestUse_13 ?_
  refine lv_isub hx hb d_Planner_firstBestUse_14 ?_
  refine same_i C hP hD hS (runV (As := [.int (x1 - (κ 1 (Int32.toNatClampNeg x2)))]) (rest := []) C hP hD (m_Planner_savedAt N gL gU κ υ (x1 - (κ 1 (Int32.toNatClampNeg x2)))  _ h H.size) kw_563 kw_565 kp_12 kw_6 kw_566 hd_Planner_savedAt ⟨Nat.le_of_ble_eq_true rfl, Nat.le_of_ble_eq_true rfl⟩ ⟨Nat.le_of_ble_eq_true rfl, Nat.le_of_ble_eq_true rfl⟩ 0 rfl rfl rfl rfl hl.1 (Nat.le_of_ble_eq_true rfl) d_Planner_firstBestUse_15) (fun r5 u4 H locs h hP hD hS => ?_)
  replace hP : va_P D CL (wPlanner k gL κ (gU 0) ++ (wUses k gU υ)) H := hP
  replace hD : va_D A (wPlanner k gL κ (gU 0) ++ (wUses k gU υ)) := hD
  try dsimp only at h
  refine lv_iload_n hx hb d_Planner_firstBestUse_18 rfl (lv_at hl 0 rfl) ?_
  refine lv_icmp_ne (tgt := 24) hx hb d_Planner_firstBestUse_19 (by decide) (fun c6 => ?_) (fun c6 => ?_)
  · replace h := h.1 c6
    refine lv_aload_n hx hb d_Planner_firstBestUse_24 rfl (lv_at hl 1 rfl) ?_
    refine va_get (D := D) (ci := 3) (v := .ref (gU 0)) (C := R_Planner) (T := F_Planner) (N := 6) hx hb hts in_Planner hown hK hP 0 rfl rfl 4 (by decide) (hts _ kw_162) (fun _ h9 => h9) rfl d_Planner_firstBestUse_25 ?_
    refine lv_iload_n hx hb d_Planner_firstBestUse_28 rfl (lv_at hl 3 rfl) ?_
    refine call_i (wr := [(gL 0, .inr (3, [.ref (gL 1), .ref (gL 2), .ref (gL 3), .ref (gL 4), .ref (gU 0), .int (κ 5 0)])), (gL 1, .inl (k 0, 18, .inl (κ 0))), (gL 2, .inl (k 0, 18, .inl (κ 1))), (gL 3, .inl (k 0, 18, .inl (κ 2))), (gL 4, .inl (k 0, 3000, .inl (κ 3)))]) (wn := (fun u7 : Unit => wPlanner k gL κ (gU 0) ++ (wUses k gU υ))) C hP hD hS [5, 6, 7, 8, 9, 10, 11, 12, 13] [0, 1, 2, 3, 4] [0, 1, 2, 3, 4, 5, 6, 7, 8, 9, 10, 11, 12, 13] rfl rfl (by decide) (by decide) (fun _ => rfl) (by decide) (runV (As := [.int x2]) (rest := []) C (hP.sub [5, 6, 7, 8, 9, 10, 11, 12, 13] rfl) (hD.sub [5, 6, 7, 8, 9, 10, 11, 12, 13] (by decide) rfl) (m_Uses_firstWith N gU υ x2  _ h H.size) kw_567 kw_568 kw_569 kw_7 kw_570 hd_Uses_firstWith ⟨Nat.le_of_ble_eq_true rfl, Nat.le_of_ble_eq_true rfl⟩ ⟨Nat.le_of_ble_eq_true rfl, Nat.le_of_ble_eq_true rfl⟩ 0 rfl rfl rfl rfl hl.1 (Nat.le_of_ble_eq_true rfl) d_Planner_firstBestUse_29) (fun r8 u7 H locs h hP hD hS => ?_)
    try dsimp only at h
    refine lv_istore (lv' := [(4, .int r8), (3, .int r2), (0, .ref (gL 0)), (1, .int x1), (2, .int x2)]) hx hb d_Planner_firstBestUse_32 hl (by decide) rfl (fun ls hl => ?_)
    refine lv_iconst (v := 0) hx hb d_Planner_firstBestUse_34 (by decide) ?_
    refine lv_istore (lv' := [(5, .int 0), (4, .int r8), (3, .int r2), (0, .ref (gL 0)), (1, .int x1), (2, .int x2)]) hx hb d_Planner_firstBestUse_35 hl (by decide) rfl (fun ls hl => ?_)
    exact t_Planner_firstBestUse_37 C N κ υ post   N x1 r2 r8 0 _ _ _ hP hD hS (lv_sub hl [3, 4, 2, 1, 0] rfl) h
  · replace h := h.2 c6
    refine lv_iconst (v := (-1)) hx hb d_Planner_firstBestUse_22 (by decide) ?_
    exact ret_i (u := ()) (wf := (fun u : Unit => wPlanner k gL κ (gU 0) ++ (wUses k gU υ))) C hP hD hS (Nat.zero_le _) (Nat.zero_le _) h d_Planner_firstBestUse_23
set_option maxHeartbeats 4000000 in
set_option maxRecDepth 100000 in
theorem t_Planner_roomFor_90 {p : Program} {l : Launch} {e : Env} {s : State} {m : MethodId} {args : Array Value} {below : List Frame} {meth : Method} {c : Code} {A : Nat → Prop} {D : va_G} {k : Nat → ClassId} {gL : Nat → Nat} {gU : Nat → Nat} {gT : Nat → Nat} {go : Nat → Nat → Nat} {gB : Nat → Nat} (C : Cx p s m args meth c D k "PromotionTill$Planner" b_Planner_roomFor 5 (some .int) A) (N : Nat) (υ : St) (τ : St) (ω : Nat → St) (β : St) (post : Int32 → ((St)) → Prop) :
    ∀ (n : Nat) (x3 : Int32) (x4 : Int32) (κ : (St)) (H : Heap) (locs : List Loc) (ls : Array Slot), va_P D CL (wPlanner k gL κ (gU 0) ++ (wUses k gU υ ++ (wTariff k gT τ (fun i => some (go i 0)) ++ (wOffer k (go 0) (ω 0) ++ (wOffer k (go 1) (ω 1) ++ (wOffer k (go 2) (ω 2) ++ (wOffer k (go 3) (ω 3) ++ (wOffer k (go 4) (ω 4) ++ (wOffer k (go 5) (ω 5) ++ (wBasket k gB β)))))))))) H → va_D A (wPlanner k gL κ (gU 0) ++ (wUses k gU υ ++ (wTariff k gT τ (fun i => some (go i 0)) ++ (wOffer k (go 0) (ω 0) ++ (wOffer k (go 1) (ω 1) ++ (wOffer k (go 2) (ω 2) ++ (wOffer k (go 3) (ω 3) ++ (wOffer k (go 4) (ω 4) ++ (wOffer k (go 5) (ω 5) ++ (wBasket k gB β)))))))))) → va_S A s.heap H locs → lv_has ls 5 [(0, .ref (gL 0)), (3, .int x3), (4, .int x4)] → wp_Planner_roomFor_90 N υ τ ω β post n x3 x4 κ → W p l e rm_Planner_roomFor s m args below meth c H locs 0 0 (MQ below (va_Qi post (fun (u : (St)) t => va_P D CL (wPlanner k gL u (gU 0) ++ (wUses k gU υ ++ (wTariff k gT τ (fun i => some (go i 0)) ++ (wOffer k (go 0) (ω 0) ++ (wOffer k (go 1) (ω 1) ++ (wOffer k (go 2) (ω 2) ++ (wOffer k (go 3) (ω 3) ++ (wOffer k (go 4) (ω 4) ++ (wOffer k (go 5) (ω 5) ++ (wBasket k gB β)))))))))) t.heap ∧ va_D A (wPlanner k gL u (gU 0) ++ (wUses k gU υ ++ (wTariff k gT τ (fun i => some (go i 0)) ++ (wOffer k (go 0) (ω 0) ++ (wOffer k (go 1) (ω 1) ++ (wOffer k (go 2) (ω 2) ++ (wOffer k (go 3) (ω 3) ++ (wOffer k (go 4) (ω 4) ++ (wOffer k (go 5) (ω 5) ++ (wBasket k gB β))))))))))) A) args s rm_Planner_roomFor.cells rm_Planner_roomFor.slots A) (F0 m 90 ls []) := by
  obtain ⟨hx, hb, hr, hlk, hml, hown, hts, hK, hA⟩ := id C
  intro n
  induction n with
  | zero =>
    intro x3 x4 κ H locs ls hP hD hS hl h
    exact absurd h (by simp [wp_Planner_roomFor_90])
  | succ n ih =>
    intro x3 x4 κ H locs ls hP hD hS hl h
    rw [wp_Planner_roomFor_90] at h
    refine lv_iload hx hb d_Planner_roomFor_90 (lv_at hl 2 rfl) ?_
    refine lv_bipush (v := 18) hx hb d_Planner_roomFor_92 (by decide) ?_
    refine lv_icmp_ge (tgt := 123) hx hb d_Planner_roomFor_94 (by decide) (fun c14 => ?_) (fun c14 => ?_)
    · replace h := h.1 c14
      refine lv_iload_n hx hb d_Planner_roomFor_123 rfl (lv_at hl 1 rfl) ?_
      exact ret_i (u := κ) (wf := (fun u : (St) => wPlanner k gL u (gU 0) ++ (wUses k gU υ ++ (wTariff k gT τ (fun i => some (go i 0)) ++ (wOffer k (go 0) (ω 0) ++ (wOffer k (go 1) (ω 1) ++ (wOffer k (go 2) (ω 2) ++ (wOffer k (go 3) (ω 3) ++ (wOffer k (go 4) (ω 4) ++ (wOffer k (go 5) (ω 5) ++ (wBasket k gB β))))))))))) C hP hD hS (Nat.zero_le _) (Nat.zero_le _) h d_Planner_roomFor_124
    · replace h := h.2 c14
      refine lv_aload_n hx hb d_Planner_roomFor_97 rfl (lv_at hl 0 rfl) ?_
      refine va_get (D := D) (ci := 3) (v := .ref (gL 2)) (C := R_Planner) (T := F_Planner) (N := 6) hx hb hts in_Planner hown hK hP 0 rfl rfl 1 (by decide) (hts _ kw_159) (fun _ h9 => h9) rfl d_Planner_roomFor_98 ?_
      refine lv_iload hx hb d_Planner_roomFor_101 (lv_at hl 2 rfl) ?_
      refine lv_iload_n hx hb d_Planner_roomFor_103 rfl (lv_at hl 1 rfl) ?_
      obtain ⟨hi15, h⟩ := h
      refine va_iast hx hb hK hP hD hS 2 0 rfl rfl hi15 d_Planner_roomFor_104 (fun H locs hP hD hS => ?_)
      obtain ⟨κ16, eκ16⟩ : ∃ z, z = s2 κ 1 (Int32.toNatClampNeg x4) x3 := ⟨_, rfl⟩
      replace hP : va_P D CL (wPlanner k gL κ16 (gU 0) ++ (wUses k gU υ ++ (wTariff k gT τ (fun i => some (go i 0)) ++ (wOffer k (go 0) (ω 0) ++ (wOffer k (go 1) (ω 1) ++ (wOffer k (go 2) (ω 2) ++ (wOffer k (go 3) (ω 3) ++ (wOffer k (go 4) (ω 4) ++ (wOffer k (go 5) (ω 5) ++ (wBasket k gB β)))))))))) H := by rw [eκ16]; exact hP
      replace hD : va_D A (wPlanner k gL κ16 (gU 0) ++ (wUses k gU υ ++ (wTariff k gT τ (fun i => some (go i 0)) ++ (wOffer k (go 0) (ω 0) ++ (wOffer k (go 1) (ω 1) ++ (wOffer k (go 2) (ω 2) ++ (wOffer k (go 3) (ω 3) ++ (wOffer k (go 4) (ω 4) ++ (wOffer k (go 5) (ω 5) ++ (wBasket k gB β)))))))))) := by rw [eκ16]; exact hD
      replace h := h κ16 eκ16
      refine lv_iload_n hx hb d_Planner_roomFor_105 rfl (lv_at hl 1 rfl) ?_
      refine lv_aload_n hx hb d_Planner_roomFor_106 rfl (lv_at hl 0 rfl) ?_
      refine va_get (D := D) (ci := 3) (v := .ref (gL 1)) (C := R_Planner) (T := F_Planner) (N := 6) hx hb hts in_Planner hown hK hP 0 rfl rfl 0 (by decide) (hts _ kw_158) (fun _ h9 => h9) rfl d_Planner_roomFor_107 ?_
      refine lv_iload hx hb d_Planner_roomFor_110 (lv_at hl 2 rfl) ?_
      obtain ⟨hi17, h⟩ := h
      refine va_iald hx hb hK hP 1 0 rfl rfl hi17 d_Planner_roomFor_112 ?_
      refine lv_iconst (v := 1) hx hb d_Planner_roomFor_113 (by decide) ?_
      refine lv_iadd hx hb d_Planner_roomFor_114 ?_
      refine lv_imul hx hb d_Planner_roomFor_115 ?_
      refine lv_istore_n (lv' := [(3, .int (x3 * ((κ16 0 (Int32.toNatClampNeg x4)) + 1))), (0, .ref (gL 0)), (4, .int x4)]) hx hb d_Planner_roomFor_116 rfl hl (by decide) rfl (fun ls hl => ?_)
      refine lv_iinc (v := x4 + 1) (lv' := [(4, .int (x4 + 1)), (3, .int (x3 * ((κ16 0 (Int32.toNatClampNeg x4)) + 1))), (0, .ref (gL 0))]) hx hb d_Planner_roomFor_117 hl (k := 2) rfl rfl (by decide) rfl (fun ls hl => ?_)
      refine lv_goto (tgt := 90) hx hb d_Planner_roomFor_120 (by decide) ?_
      exact ih (x3 * ((κ16 0 (Int32.toNatClampNeg x4)) + 1)) (x4 + 1) κ16 _ _ _ hP hD hS (lv_sub hl [2, 1, 0] rfl) h
set_option maxHeartbeats 4000000 in
set_option maxRecDepth 100000 in
theorem t_Planner_roomFor_78 {p : Program} {l : Launch} {e : Env} {s : State} {m : MethodId} {args : Array Value} {below : List Frame} {meth : Method} {c : Code} {A : Nat → Prop} {D : va_G} {k : Nat → ClassId} {gL : Nat → Nat} {gU : Nat → Nat} {gT : Nat → Nat} {go : Nat → Nat → Nat} {gB : Nat → Nat} (C : Cx p s m args meth c D k "PromotionTill$Planner" b_Planner_roomFor 5 (some .int) A) (N : Nat) (υ : St) (τ : St) (ω : Nat → St) (β : St) (post : Int32 → ((St)) → Prop) (K_39 : Int32 → (St) → Prop) (hK_39 : ∀ (x3 : Int32) (κ : (St)) (H : Heap) (locs : List Loc) (ls : Array Slot), va_P D CL (wPlanner k gL κ (gU 0) ++ (wUses k gU υ ++ (wTariff k gT τ (fun i => some (go i 0)) ++ (wOffer k (go 0) (ω 0) ++ (wOffer k (go 1) (ω 1) ++ (wOffer k (go 2) (ω 2) ++ (wOffer k (go 3) (ω 3) ++ (wOffer k (go 4) (ω 4) ++ (wOffer k (go 5) (ω 5) ++ (wBasket k gB β)))))))))) H → va_D A (wPlanner k gL κ (gU 0) ++ (wUses k gU υ ++ (wTariff k gT τ (fun i => some (go i 0)) ++ (wOffer k (go 0) (ω 0) ++ (wOffer k (go 1) (ω 1) ++ (wOffer k (go 2) (ω 2) ++ (wOffer k (go 3) (ω 3) ++ (wOffer k (go 4) (ω 4) ++ (wOffer k (go 5) (ω 5) ++ (wBasket k gB β)))))))))) → va_S A s.heap H locs → lv_has ls 5 [(0, .ref (gL 0)), (1, .ref (gT 0)), (3, .int x3)] → K_39 x3 κ → W p l e rm_Planner_roomFor s m args below meth c H locs 0 0 (MQ below (va_Qi post (fun (u : (St)) t => va_P D CL (wPlanner k gL u (gU 0) ++ (wUses k gU υ ++ (wTariff k gT τ (fun i => some (go i 0)) ++ (wOffer k (go 0) (ω 0) ++ (wOffer k (go 1) (ω 1) ++ (wOffer k (go 2) (ω 2) ++ (wOffer k (go 3) (ω 3) ++ (wOffer k (go 4) (ω 4) ++ (wOffer k (go 5) (ω 5) ++ (wBasket k gB β)))))))))) t.heap ∧ va_D A (wPlanner k gL u (gU 0) ++ (wUses k gU υ ++ (wTariff k gT τ (fun i => some (go i 0)) ++ (wOffer k (go 0) (ω 0) ++ (wOffer k (go 1) (ω 1) ++ (wOffer k (go 2) (ω 2) ++ (wOffer k (go 3) (ω 3) ++ (wOffer k (go 4) (ω 4) ++ (wOffer k (go 5) (ω 5) ++ (wBasket k gB β))))))))))) A) args s rm_Planner_roomFor.cells rm_Planner_roomFor.slots A) (F0 m 39 ls [])) :
    ∀ (x3 : Int32) (y0 : Int32) (y1 : Int32) (κ : (St)) (H : Heap) (locs : List Loc) (ls : Array Slot), va_P D CL (wPlanner k gL κ (gU 0) ++ (wUses k gU υ ++ (wTariff k gT τ (fun i => some (go i 0)) ++ (wOffer k (go 0) (ω 0) ++ (wOffer k (go 1) (ω 1) ++ (wOffer k (go 2) (ω 2) ++ (wOffer k (go 3) (ω 3) ++ (wOffer k (go 4) (ω 4) ++ (wOffer k (go 5) (ω 5) ++ (wBasket k gB β)))))))))) H → va_D A (wPlanner k gL κ (gU 0) ++ (wUses k gU υ ++ (wTariff k gT τ (fun i => some (go i 0)) ++ (wOffer k (go 0) (ω 0) ++ (wOffer k (go 1) (ω 1) ++ (wOffer k (go 2) (ω 2) ++ (wOffer k (go 3) (ω 3) ++ (wOffer k (go 4) (ω 4) ++ (wOffer k (go 5) (ω 5) ++ (wBasket k gB β)))))))))) → va_S A s.heap H locs → lv_has ls 5 [(0, .ref (gL 0)), (1, .ref (gT 0)), (3, .int x3)] → wp_Planner_roomFor_78 N υ τ ω β post K_39 x3 y0 y1 κ → W p l e rm_Planner_roomFor s m args below meth c H locs 0 0 (MQ below (va_Qi post (fun (u : (St)) t => va_P D CL (wPlanner k gL u (gU 0) ++ (wUses k gU υ ++ (wTariff k gT τ (fun i => some (go i 0)) ++ (wOffer k (go 0) (ω 0) ++ (wOffer k (go 1) (ω 1) ++ (wOffer k (go 2) (ω 2) ++ (wOffer k (go 3) (ω 3) ++ (wOffer k (go 4) (ω 4) ++ (wOffer k (go 5) (ω 5) ++ (wBasket k gB β)))))))))) t.heap ∧ va_D A (wPlanner k gL u (gU 0) ++ (wUses k gU υ ++ (wTariff k gT τ (fun i => some (go i 0)) ++ (wOffer k (go 0) (ω 0) ++ (wOffer k (go 1) (ω 1) ++ (wOffer k (go 2) (ω 2) ++ (wOffer k (go 3) (ω 3) ++ (wOffer k (go 4) (ω 4) ++ (wOffer k (go 5) (ω 5) ++ (wBasket k gB β))))))))))) A) args s rm_Planner_roomFor.cells rm_Planner_roomFor.slots A) (F0 m 78 ls [.int y0, .int y1, .ref (gL 1)]) := by
  obtain ⟨hx, hb, hr, hlk, hml, hown, hts, hK, hA⟩ := id C
  intro x3 y0 y1 κ H locs ls hP hD hS hl h
  unfold wp_Planner_roomFor_78 at h
  obtain ⟨hi12, h⟩ := h
  refine va_iast hx hb hK hP hD hS 1 0 rfl rfl hi12 d_Planner_roomFor_78 (fun H locs hP hD hS => ?_)
  obtain ⟨κ13, eκ13⟩ : ∃ z, z = s2 κ 0 (Int32.toNatClampNeg y1) y0 := ⟨_, rfl⟩
  replace hP : va_P D CL (wPlanner k gL κ13 (gU 0) ++ (wUses k gU υ ++ (wTariff k gT τ (fun i => some (go i 0)) ++ (wOffer k (go 0) (ω 0) ++ (wOffer k (go 1) (ω 1) ++ (wOffer k (go 2) (ω 2) ++ (wOffer k (go 3) (ω 3) ++ (wOffer k (go 4) (ω 4) ++ (wOffer k (go 5) (ω 5) ++ (wBasket k gB β)))))))))) H := by rw [eκ13]; exact hP
  replace hD : va_D A (wPlanner k gL κ13 (gU 0) ++ (wUses k gU υ ++ (wTariff k gT τ (fun i => some (go i 0)) ++ (wOffer k (go 0) (ω 0) ++ (wOffer k (go 1) (ω 1) ++ (wOffer k (go 2) (ω 2) ++ (wOffer k (go 3) (ω 3) ++ (wOffer k (go 4) (ω 4) ++ (wOffer k (go 5) (ω 5) ++ (wBasket k gB β)))))))))) := by rw [eκ13]; exact hD
  replace h := h κ13 eκ13
  refine lv_iinc (v := x3 + 1) (lv' := [(3, .int (x3 + 1)), (0, .ref (gL 0)), (1, .ref (gT 0))]) hx hb d_Planner_roomFor_79 hl (k := 2) rfl rfl (by decide) rfl (fun ls hl => ?_)
  refine lv_goto (tgt := 39) hx hb d_Planner_roomFor_82 (by decide) ?_
  exact hK_39 (x3 + 1) κ13 _ _ _ hP hD hS (lv_sub hl [1, 2, 0] rfl) h
set_option maxHeartbeats 4000000 in
set_option maxRecDepth 100000 in
theorem t_Planner_roomFor_39 {p : Program} {l : Launch} {e : Env} {s : State} {m : MethodId} {args : Array Value} {below : List Frame} {meth : Method} {c : Code} {A : Nat → Prop} {D : va_G} {k : Nat → ClassId} {gL : Nat → Nat} {gU : Nat → Nat} {gT : Nat → Nat} {go : Nat → Nat → Nat} {gB : Nat → Nat} (C : Cx p s m args meth c D k "PromotionTill$Planner" b_Planner_roomFor 5 (some .int) A) (N : Nat) (υ : St) (τ : St) (ω : Nat → St) (β : St) (post : Int32 → ((St)) → Prop) :
    ∀ (n : Nat) (x3 : Int32) (κ : (St)) (H : Heap) (locs : List Loc) (ls : Array Slot), va_P D CL (wPlanner k gL κ (gU 0) ++ (wUses k gU υ ++ (wTariff k gT τ (fun i => some (go i 0)) ++ (wOffer k (go 0) (ω 0) ++ (wOffer k (go 1) (ω 1) ++ (wOffer k (go 2) (ω 2) ++ (wOffer k (go 3) (ω 3) ++ (wOffer k (go 4) (ω 4) ++ (wOffer k (go 5) (ω 5) ++ (wBasket k gB β)))))))))) H → va_D A (wPlanner k gL κ (gU 0) ++ (wUses k gU υ ++ (wTariff k gT τ (fun i => some (go i 0)) ++ (wOffer k (go 0) (ω 0) ++ (wOffer k (go 1) (ω 1) ++ (wOffer k (go 2) (ω 2) ++ (wOffer k (go 3) (ω 3) ++ (wOffer k (go 4) (ω 4) ++ (wOffer k (go 5) (ω 5) ++ (wBasket k gB β)))))))))) → va_S A s.heap H locs → lv_has ls 5 [(0, .ref (gL 0)), (1, .ref (gT 0)), (3, .int x3)] → wp_Planner_roomFor_39 N υ τ ω β post n x3 κ → W p l e rm_Planner_roomFor s m args below meth c H locs 0 0 (MQ below (va_Qi post (fun (u : (St)) t => va_P D CL (wPlanner k gL u (gU 0) ++ (wUses k gU υ ++ (wTariff k gT τ (fun i => some (go i 0)) ++ (wOffer k (go 0) (ω 0) ++ (wOffer k (go 1) (ω 1) ++ (wOffer k (go 2) (ω 2) ++ (wOffer k (go 3) (ω 3) ++ (wOffer k (go 4) (ω 4) ++ (wOffer k (go 5) (ω 5) ++ (wBasket k gB β)))))))))) t.heap ∧ va_D A (wPlanner k gL u (gU 0) ++ (wUses k gU υ ++ (wTariff k gT τ (fun i => some (go i 0)) ++ (wOffer k (go 0) (ω 0) ++ (wOffer k (go 1) (ω 1) ++ (wOffer k (go 2) (ω 2) ++ (wOffer k (go 3) (ω 3) ++ (wOffer k (go 4) (ω 4) ++ (wOffer k (go 5) (ω 5) ++ (wBasket k gB β))))))))))) A) args s rm_Planner_roomFor.cells rm_Planner_roomFor.slots A) (F0 m 39 ls []) := by
  obtain ⟨hx, hb, hr, hlk, hml, hown, hts, hK, hA⟩ := id C
  intro n
  induction n with
  | zero =>
    intro x3 κ H locs ls hP hD hS hl h
    exact absurd h (by simp [wp_Planner_roomFor_39])
  | succ n ih =>
    intro x3 κ H locs ls hP hD hS hl h
    rw [wp_Planner_roomFor_39] at h
    refine lv_iload_n hx hb d_Planner_roomFor_39 rfl (lv_at hl 2 rfl) ?_
    refine lv_bipush (v := 6) hx hb d_Planner_roomFor_40 (by decide) ?_
    refine lv_icmp_ge (tgt := 85) hx hb d_Planner_roomFor_42 (by decide) (fun c9 => ?_) (fun c9 => ?_)
    · replace h := h.1 c9
      refine lv_iconst (v := 1) hx hb d_Planner_roomFor_85 (by decide) ?_
      refine lv_istore_n (lv' := [(3, .int 1), (0, .ref (gL 0)), (1, .ref (gT 0))]) hx hb d_Planner_roomFor_86 rfl hl (by decide) rfl (fun ls hl => ?_)
      refine lv_iconst (v := 0) hx hb d_Planner_roomFor_87 (by decide) ?_
      refine lv_istore (lv' := [(4, .int 0), (3, .int 1), (0, .ref (gL 0)), (1, .ref (gT 0))]) hx hb d_Planner_roomFor_88 hl (by decide) rfl (fun ls hl => ?_)
      exact t_Planner_roomFor_90 C N υ τ ω β post   N 1 0 κ _ _ _ hP hD hS (lv_sub hl [2, 1, 0] rfl) h
    · replace h := h.2 c9
      refine lv_aload_n hx hb d_Planner_roomFor_45 rfl (lv_at hl 1 rfl) ?_
      refine va_get (D := D) (ci := 5) (v := .ref (gT 2)) (C := R_Tariff) (T := F_Tariff) (N := 2) hx hb hts in_Tariff hown hK hP 14 rfl rfl 1 (by decide) (hts _ kw_88) (fun _ h9 => h9) rfl d_Planner_roomFor_46 ?_
      refine lv_iload_n hx hb d_Planner_roomFor_49 rfl (lv_at hl 2 rfl) ?_
      obtain ⟨hi10, h⟩ := h
      refine va_aldq hx hb hK hP 16 3 rfl rfl hi10 d_Planner_roomFor_50 ?_
      obtain ⟨i9, hi9, e9⟩ := vp_in_of hi10 (by decide)
      rcases (show i9 = 0 ∨ i9 = 1 ∨ i9 = 2 ∨ i9 = 3 ∨ i9 = 4 ∨ i9 = 5 by omega) with rfl | rfl | rfl | rfl | rfl | rfl
      · subst e9
        try simp only [show (nI 0).toNatClampNeg = 0 from rfl] at h
        refine W.eq (g2 := F0 m 51 ls [.ref ((go 0) 0)]) rfl ?_
        refine lv_astore (lv' := [(4, .ref ((go 0) 0)), (0, .ref (gL 0)), (1, .ref (gT 0)), (3, .int (nI 0))]) hx hb d_Planner_roomFor_51 hl (by decide) rfl (fun ls hl => ?_)
        refine lv_aload_n hx hb d_Planner_roomFor_53 rfl (lv_at hl 1 rfl) ?_
        refine va_get (D := D) (ci := 3) (v := .ref (gL 1)) (C := R_Planner) (T := F_Planner) (N := 6) hx hb hts in_Planner hown hK hP 0 rfl rfl 0 (by decide) (hts _ kw_158) (fun _ h9 => h9) rfl d_Planner_roomFor_54 ?_
        refine lv_bipush (v := 12) hx hb d_Planner_roomFor_57 (by decide) ?_
        refine lv_iload_n hx hb d_Planner_roomFor_59 rfl (lv_at hl 3 rfl) ?_
        refine lv_iadd hx hb d_Planner_roomFor_60 ?_
        refine lv_aload hx hb d_Planner_roomFor_61 (lv_at hl 0 rfl) ?_
        refine va_get (D := D) (ci := 1) (v := .int ((ω 0) 4 0)) (C := R_Offer) (T := F_Offer) (N := 6) hx hb hts in_Offer hown hK hP 17 rfl rfl 4 (by decide) (hts _ kw_63) (fun _ h9 => h9) rfl d_Planner_roomFor_63 ?_
        refine lv_if_eq (tgt := 77) hx hb d_Planner_roomFor_66 (by decide) (fun c11 => ?_) (fun c11 => ?_)
        · replace h := h.1 c11
          refine lv_iconst (v := 0) hx hb d_Planner_roomFor_77 (by decide) ?_
          exact t_Planner_roomFor_78 C N υ τ ω β post (wp_Planner_roomFor_39 N υ τ ω β post n) ih (nI 0) 0 (12 + (nI 0)) κ _ _ _ hP hD hS (lv_sub hl [1, 2, 3] rfl) h
        · replace h := h.2 c11
          refine lv_aload hx hb d_Planner_roomFor_69 (lv_at hl 0 rfl) ?_
          refine va_get (D := D) (ci := 1) (v := .int ((ω 0) 3 0)) (C := R_Offer) (T := F_Offer) (N := 6) hx hb hts in_Offer hown hK hP 17 rfl rfl 3 (by decide) (hts _ kw_57) (fun _ h9 => h9) rfl d_Planner_roomFor_71 ?_
          refine lv_goto (tgt := 78) hx hb d_Planner_roomFor_74 (by decide) ?_
          exact t_Planner_roomFor_78 C N υ τ ω β post (wp_Planner_roomFor_39 N υ τ ω β post n) ih (nI 0) ((ω 0) 3 0) (12 + (nI 0)) κ _ _ _ hP hD hS (lv_sub hl [1, 2, 3] rfl) h
      · subst e9
        try simp only [show (nI 1).toNatClampNeg = 1 from rfl] at h
        refine W.eq (g2 := F0 m 51 ls [.ref ((go 1) 0)]) rfl ?_
        refine lv_astore (lv' := [(4, .ref ((go 1) 0)), (0, .ref (gL 0)), (1, .ref (gT 0)), (3, .int (nI 1))]) hx hb d_Planner_roomFor_51 hl (by decide) rfl (fun ls hl => ?_)
        refine lv_aload_n hx hb d_Planner_roomFor_53 rfl (lv_at hl 1 rfl) ?_
        refine va_get (D := D) (ci := 3) (v := .ref (gL 1)) (C := R_Planner) (T := F_Planner) (N := 6) hx hb hts in_Planner hown hK hP 0 rfl rfl 0 (by decide) (hts _ kw_158) (fun _ h9 => h9) rfl d_Planner_roomFor_54 ?_
        refine lv_bipush (v := 12) hx hb d_Planner_roomFor_57 (by decide) ?_
        refine lv_iload_n hx hb d_Planner_roomFor_59 rfl (lv_at hl 3 rfl) ?_
        refine lv_iadd hx hb d_Planner_roomFor_60 ?_
        refine lv_aload hx hb d_Planner_roomFor_61 (lv_at hl 0 rfl) ?_
        refine va_get (D := D) (ci := 1) (v := .int ((ω 1) 4 0)) (C := R_Offer) (T := F_Offer) (N := 6) hx hb hts in_Offer hown hK hP 19 rfl rfl 4 (by decide) (hts _ kw_63) (fun _ h9 => h9) rfl d_Planner_roomFor_63 ?_
        refine lv_if_eq (tgt := 77) hx hb d_Planner_roomFor_66 (by decide) (fun c11 => ?_) (fun c11 => ?_)
        · replace h := h.1 c11
          refine lv_iconst (v := 0) hx hb d_Planner_roomFor_77 (by decide) ?_
          exact t_Planner_roomFor_78 C N υ τ ω β post (wp_Planner_roomFor_39 N υ τ ω β post n) ih (nI 1) 0 (12 + (nI 1)) κ _ _ _ hP hD hS (lv_sub hl [1, 2, 3] rfl) h
        · replace h := h.2 c11
          refine lv_aload hx hb d_Planner_roomFor_69 (lv_at hl 0 rfl) ?_
          refine va_get (D := D) (ci := 1) (v := .int ((ω 1) 3 0)) (C := R_Offer) (T := F_Offer) (N := 6) hx hb hts in_Offer hown hK hP 19 rfl rfl 3 (by decide) (hts _ kw_57) (fun _ h9 => h9) rfl d_Planner_roomFor_71 ?_
          refine lv_goto (tgt := 78) hx hb d_Planner_roomFor_74 (by decide) ?_
          exact t_Planner_roomFor_78 C N υ τ ω β post (wp_Planner_roomFor_39 N υ τ ω β post n) ih (nI 1) ((ω 1) 3 0) (12 + (nI 1)) κ _ _ _ hP hD hS (lv_sub hl [1, 2, 3] rfl) h
      · subst e9
        try simp only [show (nI 2).toNatClampNeg = 2 from rfl] at h
        refine W.eq (g2 := F0 m 51 ls [.ref ((go 2) 0)]) rfl ?_
        refine lv_astore (lv' := [(4, .ref ((go 2) 0)), (0, .ref (gL 0)), (1, .ref (gT 0)), (3, .int (nI 2))]) hx hb d_Planner_roomFor_51 hl (by decide) rfl (fun ls hl => ?_)
        refine lv_aload_n hx hb d_Planner_roomFor_53 rfl (lv_at hl 1 rfl) ?_
        refine va_get (D := D) (ci := 3) (v := .ref (gL 1)) (C := R_Planner) (T := F_Planner) (N := 6) hx hb hts in_Planner hown hK hP 0 rfl rfl 0 (by decide) (hts _ kw_158) (fun _ h9 => h9) rfl d_Planner_roomFor_54 ?_
        refine lv_bipush (v := 12) hx hb d_Planner_roomFor_57 (by decide) ?_
        refine lv_iload_n hx hb d_Planner_roomFor_59 rfl (lv_at hl 3 rfl) ?_
        refine lv_iadd hx hb d_Planner_roomFor_60 ?_
        refine lv_aload hx hb d_Planner_roomFor_61 (lv_at hl 0 rfl) ?_
        refine va_get (D := D) (ci := 1) (v := .int ((ω 2) 4 0)) (C := R_Offer) (T := F_Offer) (N := 6) hx hb hts in_Offer hown hK hP 21 rfl rfl 4 (by decide) (hts _ kw_63) (fun _ h9 => h9) rfl d_Planner_roomFor_63 ?_
        refine lv_if_eq (tgt := 77) hx hb d_Planner_roomFor_66 (by decide) (fun c11 => ?_) (fun c11 => ?_)
        · replace h := h.1 c11
          refine lv_iconst (v := 0) hx hb d_Planner_roomFor_77 (by decide) ?_
          exact t_Planner_roomFor_78 C N υ τ ω β post (wp_Planner_roomFor_39 N υ τ ω β post n) ih (nI 2) 0 (12 + (nI 2)) κ _ _ _ hP hD hS (lv_sub hl [1, 2, 3] rfl) h
        · replace h := h.2 c11
          refine lv_aload hx hb d_Planner_roomFor_69 (lv_at hl 0 rfl) ?_
          refine va_get (D := D) (ci := 1) (v := .int ((ω 2) 3 0)) (C := R_Offer) (T := F_Offer) (N := 6) hx hb hts in_Offer hown hK hP 21 rfl rfl 3 (by decide) (hts _ kw_57) (fun _ h9 => h9) rfl d_Planner_roomFor_71 ?_
          refine lv_goto (tgt := 78) hx hb d_Planner_roomFor_74 (by decide) ?_
          exact t_Planner_roomFor_78 C N υ τ ω β post (wp_Planner_roomFor_39 N υ τ ω β post n) ih (nI 2) ((ω 2) 3 0) (12 + (nI 2)) κ _ _ _ hP hD hS (lv_sub hl [1, 2, 3] rfl) h
      · subst e9
        try simp only [show (nI 3).toNatClampNeg = 3 from rfl] at h
        refine W.eq (g2 := F0 m 51 ls [.ref ((go 3) 0)]) rfl ?_
        refine lv_astore (lv' := [(4, .ref ((go 3) 0)), (0, .ref (gL 0)), (1, .ref (gT 0)), (3, .int (nI 3))]) hx hb d_Planner_roomFor_51 hl (by decide) rfl (fun ls hl => ?_)
        refine lv_aload_n hx hb d_Planner_roomFor_53 rfl (lv_at hl 1 rfl) ?_
        refine va_get (D := D) (ci := 3) (v := .ref (gL 1)) (C := R_Planner) (T := F_Planner) (N := 6) hx hb hts in_Planner hown hK hP 0 rfl rfl 0 (by decide) (hts _ kw_158) (fun _ h9 => h9) rfl d_Planner_roomFor_54 ?_
        refine lv_bipush (v := 12) hx hb d_Planner_roomFor_57 (by decide) ?_
        refine lv_iload_n hx hb d_Planner_roomFor_59 rfl (lv_at hl 3 rfl) ?_
        refine lv_iadd hx hb d_Planner_roomFor_60 ?_
        refine lv_aload hx hb d_Planner_roomFor_61 (lv_at hl 0 rfl) ?_
        refine va_get (D := D) (ci := 1) (v := .int ((ω 3) 4 0)) (C := R_Offer) (T := F_Offer) (N := 6) hx hb hts in_Offer hown hK hP 23 rfl rfl 4 (by decide) (hts _ kw_63) (fun _ h9 => h9) rfl d_Planner_roomFor_63 ?_
        refine lv_if_eq (tgt := 77) hx hb d_Planner_roomFor_66 (by decide) (fun c11 => ?_) (fun c11 => ?_)
        · replace h := h.1 c11
          refine lv_iconst (v := 0) hx hb d_Planner_roomFor_77 (by decide) ?_
          exact t_Planner_roomFor_78 C N υ τ ω β post (wp_Planner_roomFor_39 N υ τ ω β post n) ih (nI 3) 0 (12 + (nI 3)) κ _ _ _ hP hD hS (lv_sub hl [1, 2, 3] rfl) h
        · replace h := h.2 c11
          refine lv_aload hx hb d_Planner_roomFor_69 (lv_at hl 0 rfl) ?_
          refine va_get (D := D) (ci := 1) (v := .int ((ω 3) 3 0)) (C := R_Offer) (T := F_Offer) (N := 6) hx hb hts in_Offer hown hK hP 23 rfl rfl 3 (by decide) (hts _ kw_57) (fun _ h9 => h9) rfl d_Planner_roomFor_71 ?_
          refine lv_goto (tgt := 78) hx hb d_Planner_roomFor_74 (by decide) ?_
          exact t_Planner_roomFor_78 C N υ τ ω β post (wp_Planner_roomFor_39 N υ τ ω β post n) ih (nI 3) ((ω 3) 3 0) (12 + (nI 3)) κ _ _ _ hP hD hS (lv_sub hl [1, 2, 3] rfl) h
      · subst e9
        try simp only [show (nI 4).toNatClampNeg = 4 from rfl] at h
        refine W.eq (g2 := F0 m 51 ls [.ref ((go 4) 0)]) rfl ?_
        refine lv_astore (lv' := [(4, .ref ((go 4) 0)), (0, .ref (gL 0)), (1, .ref (gT 0)), (3, .int (nI 4))]) hx hb d_Planner_roomFor_51 hl (by decide) rfl (fun ls hl => ?_)
        refine lv_aload_n hx hb d_Planner_roomFor_53 rfl (lv_at hl 1 rfl) ?_
        refine va_get (D := D) (ci := 3) (v := .ref (gL 1)) (C := R_Planner) (T := F_Planner) (N := 6) hx hb hts in_Planner hown hK hP 0 rfl rfl 0 (by decide) (hts _ kw_158) (fun _ h9 => h9) rfl d_Planner_roomFor_54 ?_
        refine lv_bipush (v := 12) hx hb d_Planner_roomFor_57 (by decide) ?_
        refine lv_iload_n hx hb d_Planner_roomFor_59 rfl (lv_at hl 3 rfl) ?_
        refine lv_iadd hx hb d_Planner_roomFor_60 ?_
        refine lv_aload hx hb d_Planner_roomFor_61 (lv_at hl 0 rfl) ?_
        refine va_get (D := D) (ci := 1) (v := .int ((ω 4) 4 0)) (C := R_Offer) (T := F_Offer) (N := 6) hx hb hts in_Offer hown hK hP 25 rfl rfl 4 (by decide) (hts _ kw_63) (fun _ h9 => h9) rfl d_Planner_roomFor_63 ?_
        refine lv_if_eq (tgt := 77) hx hb d_Planner_roomFor_66 (by decide) (fun c11 => ?_) (fun c11 => ?_)
        · replace h := h.1 c11
          refine lv_iconst (v := 0) hx hb d_Planner_roomFor_77 (by decide) ?_
          exact t_Planner_roomFor_78 C N υ τ ω β post (wp_Planner_roomFor_39 N υ τ ω β post n) ih (nI 4) 0 (12 + (nI 4)) κ _ _ _ hP hD hS (lv_sub hl [1, 2, 3] rfl) h
        · replace h := h.2 c11
          refine lv_aload hx hb d_Planner_roomFor_69 (lv_at hl 0 rfl) ?_
          refine va_get (D := D) (ci := 1) (v := .int ((ω 4) 3 0)) (C := R_Offer) (T := F_Offer) (N := 6) hx hb hts in_Offer hown hK hP 25 rfl rfl 3 (by decide) (hts _ kw_57) (fun _ h9 => h9) rfl d_Planner_roomFor_71 ?_
          refine lv_goto (tgt := 78) hx hb d_Planner_roomFor_74 (by decide) ?_
          exact t_Planner_roomFor_78 C N υ τ ω β post (wp_Planner_roomFor_39 N υ τ ω β post n) ih (nI 4) ((ω 4) 3 0) (12 + (nI 4)) κ _ _ _ hP hD hS (lv_sub hl [1, 2, 3] rfl) h
      · subst e9
        try simp only [show (nI 5).toNatClampNeg = 5 from rfl] at h
        refine W.eq (g2 := F0 m 51 ls [.ref ((go 5) 0)]) rfl ?_
        refine lv_astore (lv' := [(4, .ref ((go 5) 0)), (0, .ref (gL 0)), (1, .ref (gT 0)), (3, .int (nI 5))]) hx hb d_Planner_roomFor_51 hl (by decide) rfl (fun ls hl => ?_)
        refine lv_aload_n hx hb d_Planner_roomFor_53 rfl (lv_at hl 1 rfl) ?_
        refine va_get (D := D) (ci := 3) (v := .ref (gL 1)) (C := R_Planner) (T := F_Planner) (N := 6) hx hb hts in_Planner hown hK hP 0 rfl rfl 0 (by decide) (hts _ kw_158) (fun _ h9 => h9) rfl d_Planner_roomFor_54 ?_
        refine lv_bipush (v := 12) hx hb d_Planner_roomFor_57 (by decide) ?_
        refine lv_iload_n hx hb d_Planner_roomFor_59 rfl (lv_at hl 3 rfl) ?_
        refine lv_iadd hx hb d_Planner_roomFor_60 ?_
        refine lv_aload hx hb d_Planner_roomFor_61 (lv_at hl 0 rfl) ?_
        refine va_get (D := D) (ci := 1) (v := .int ((ω 5) 4 0)) (C := R_Offer) (T := F_Offer) (N := 6) hx hb hts in_Offer hown hK hP 27 rfl rfl 4 (by decide) (hts _ kw_63) (fun _ h9 => h9) rfl d_Planner_roomFor_63 ?_
        refine lv_if_eq (tgt := 77) hx hb d_Planner_roomFor_66 (by decide) (fun c11 => ?_) (fun c11 => ?_)
        · replace h := h.1 c11
          refine lv_iconst (v := 0) hx hb d_Planner_roomFor_77 (by decide) ?_
          exact t_Planner_roomFor_78 C N υ τ ω β post (wp_Planner_roomFor_39 N υ τ ω β post n) ih (nI 5) 0 (12 + (nI 5)) κ _ _ _ hP hD hS (lv_sub hl [1, 2, 3] rfl) h
        · replace h := h.2 c11
          refine lv_aload hx hb d_Planner_roomFor_69 (lv_at hl 0 rfl) ?_
          refine va_get (D := D) (ci := 1) (v := .int ((ω 5) 3 0)) (C := R_Offer) (T := F_Offer) (N := 6) hx hb hts in_Offer hown hK hP 27 rfl rfl 3 (by decide) (hts _ kw_57) (fun _ h9 => h9) rfl d_Planner_roomFor_71 ?_
          refine lv_goto (tgt := 78) hx hb d_Planner_roomFor_74 (by decide) ?_
          exact t_Planner_roomFor_78 C N υ τ ω β post (wp_Planner_roomFor_39 N υ τ ω β post n) ih (nI 5) ((ω 5) 3 0) (12 + (nI 5)) κ _ _ _ hP hD hS (lv_sub hl [1, 2, 3] rfl) h
set_option maxHeartbeats 4000000 in
set_option maxRecDepth 100000 in
theorem t_Planner_roomFor_30 {p : Program} {l : Launch} {e : Env} {s : State} {m : MethodId} {args : Array Value} {below : List Frame} {meth : Method} {c : Code} {A : Nat → Prop} {D : va_G} {k : Nat → ClassId} {gL : Nat → Nat} {gU : Nat → Nat} {gT : Nat → Nat} {go : Nat → Nat → Nat} {gB : Nat → Nat} (C : Cx p s m args meth c D k "PromotionTill$Planner" b_Planner_roomFor 5 (some .int) A) (N : Nat) (υ : St) (τ : St) (ω : Nat → St) (β : St) (post : Int32 → ((St)) → Prop) (K_2 : Int32 → (St) → Prop) (hK_2 : ∀ (x3 : Int32) (κ : (St)) (H : Heap) (locs : List Loc) (ls : Array Slot), va_P D CL (wPlanner k gL κ (gU 0) ++ (wUses k gU υ ++ (wTariff k gT τ (fun i => some (go i 0)) ++ (wOffer k (go 0) (ω 0) ++ (wOffer k (go 1) (ω 1) ++ (wOffer k (go 2) (ω 2) ++ (wOffer k (go 3) (ω 3) ++ (wOffer k (go 4) (ω 4) ++ (wOffer k (go 5) (ω 5) ++ (wBasket k gB β)))))))))) H → va_D A (wPlanner k gL κ (gU 0) ++ (wUses k gU υ ++ (wTariff k gT τ (fun i => some (go i 0)) ++ (wOffer k (go 0) (ω 0) ++ (wOffer k (go 1) (ω 1) ++ (wOffer k (go 2) (ω 2) ++ (wOffer k (go 3) (ω 3) ++ (wOffer k (go 4) (ω 4) ++ (wOffer k (go 5) (ω 5) ++ (wBasket k gB β)))))))))) → va_S A s.heap H locs → lv_has ls 5 [(0, .ref (gL 0)), (1, .ref (gT 0)), (2, .ref (gB 0)), (3, .int x3)] → K_2 x3 κ → W p l e rm_Planner_roomFor s m args below meth c H locs 0 0 (MQ below (va_Qi post (fun (u : (St)) t => va_P D CL (wPlanner k gL u (gU 0) ++ (wUses k gU υ ++ (wTariff k gT τ (fun i => some (go i 0)) ++ (wOffer k (go 0) (ω 0) ++ (wOffer k (go 1) (ω 1) ++ (wOffer k (go 2) (ω 2) ++ (wOffer k (go 3) (ω 3) ++ (wOffer k (go 4) (ω 4) ++ (wOffer k (go 5) (ω 5) ++ (wBasket k gB β)))))))))) t.heap ∧ va_D A (wPlanner k gL u (gU 0) ++ (wUses k gU υ ++ (wTariff k gT τ (fun i => some (go i 0)) ++ (wOffer k (go 0) (ω 0) ++ (wOffer k (go 1) (ω 1) ++ (wOffer k (go 2) (ω 2) ++ (wOffer k (go 3) (ω 3) ++ (wOffer k (go 4) (ω 4) ++ (wOffer k (go 5) (ω 5) ++ (wBasket k gB β))))))))))) A) args s rm_Planner_roomFor.cells rm_Planner_roomFor.slots A) (F0 m 2 ls [])) :
    ∀ (x3 : Int32) (y0 : Int32) (y1 : Int32) (κ : (St)) (H : Heap) (locs : List Loc) (ls : Array Slot), va_P D CL (wPlanner k gL κ (gU 0) ++ (wUses k gU υ ++ (wTariff k gT τ (fun i => some (go i 0)) ++ (wOffer k (go 0) (ω 0) ++ (wOffer k (go 1) (ω 1) ++ (wOffer k (go 2) (ω 2) ++ (wOffer k (go 3) (ω 3) ++ (wOffer k (go 4) (ω 4) ++ (wOffer k (go 5) (ω 5) ++ (wBasket k gB β)))))))))) H → va_D A (wPlanner k gL κ (gU 0) ++ (wUses k gU υ ++ (wTariff k gT τ (fun i => some (go i 0)) ++ (wOffer k (go 0) (ω 0) ++ (wOffer k (go 1) (ω 1) ++ (wOffer k (go 2) (ω 2) ++ (wOffer k (go 3) (ω 3) ++ (wOffer k (go 4) (ω 4) ++ (wOffer k (go 5) (ω 5) ++ (wBasket k gB β)))))))))) → va_S A s.heap H locs → lv_has ls 5 [(0, .ref (gL 0)), (1, .ref (gT 0)), (2, .ref (gB 0)), (3, .int x3)] → wp_Planner_roomFor_30 N υ τ ω β post K_2 x3 y0 y1 κ → W p l e rm_Planner_roomFor s m args below meth c H locs 0 0 (MQ below (va_Qi post (fun (u : (St)) t => va_P D CL (wPlanner k gL u (gU 0) ++ (wUses k gU υ ++ (wTariff k gT τ (fun i => some (go i 0)) ++ (wOffer k (go 0) (ω 0) ++ (wOffer k (go 1) (ω 1) ++ (wOffer k (go 2) (ω 2) ++ (wOffer k (go 3) (ω 3) ++ (wOffer k (go 4) (ω 4) ++ (wOffer k (go 5) (ω 5) ++ (wBasket k gB β)))))))))) t.heap ∧ va_D A (wPlanner k gL u (gU 0) ++ (wUses k gU υ ++ (wTariff k gT τ (fun i => some (go i 0)) ++ (wOffer k (go 0) (ω 0) ++ (wOffer k (go 1) (ω 1) ++ (wOffer k (go 2) (ω 2) ++ (wOffer k (go 3) (ω 3) ++ (wOffer k (go 4) (ω 4) ++ (wOffer k (go 5) (ω 5) ++ (wBasket k gB β))))))))))) A) args s rm_Planner_roomFor.cells rm_Planner_roomFor.slots A) (F0 m 30 ls [.int y0, .int y1, .ref (gL 1)]) := by
  obtain ⟨hx, hb, hr, hlk, hml, hown, hts, hK, hA⟩ := id C
  intro x3 y0 y1 κ H locs ls hP hD hS hl h
  unfold wp_Planner_roomFor_30 at h
  obtain ⟨hi7, h⟩ := h
  refine va_iast hx hb hK hP hD hS 1 0 rfl rfl hi7 d_Planner_roomFor_30 (fun H locs hP hD hS => ?_)
  obtain ⟨κ8, eκ8⟩ : ∃ z, z = s2 κ 0 (Int32.toNatClampNeg y1) y0 := ⟨_, rfl⟩
  replace hP : va_P D CL (wPlanner k gL κ8 (gU 0) ++ (wUses k gU υ ++ (wTariff k gT τ (fun i => some (go i 0)) ++ (wOffer k (go 0) (ω 0) ++ (wOffer k (go 1) (ω 1) ++ (wOffer k (go 2) (ω 2) ++ (wOffer k (go 3) (ω 3) ++ (wOffer k (go 4) (ω 4) ++ (wOffer k (go 5) (ω 5) ++ (wBasket k gB β)))))))))) H := by rw [eκ8]; exact hP
  replace hD : va_D A (wPlanner k gL κ8 (gU 0) ++ (wUses k gU υ ++ (wTariff k gT τ (fun i => some (go i 0)) ++ (wOffer k (go 0) (ω 0) ++ (wOffer k (go 1) (ω 1) ++ (wOffer k (go 2) (ω 2) ++ (wOffer k (go 3) (ω 3) ++ (wOffer k (go 4) (ω 4) ++ (wOffer k (go 5) (ω 5) ++ (wBasket k gB β)))))))))) := by rw [eκ8]; exact hD
  replace h := h κ8 eκ8
  refine lv_iinc (v := x3 + 1) (lv' := [(3, .int (x3 + 1)), (0, .ref (gL 0)), (1, .ref (gT 0)), (2, .ref (gB 0))]) hx hb d_Planner_roomFor_31 hl (k := 3) rfl rfl (by decide) rfl (fun ls hl => ?_)
  refine lv_goto (tgt := 2) hx hb d_Planner_roomFor_34 (by decide) ?_
  exact hK_2 (x3 + 1) κ8 _ _ _ hP hD hS (lv_sub hl [1, 2, 3, 0] rfl) h
set_option maxHeartbeats 4000000 in
set_option maxRecDepth 100000 in
theorem t_Planner_roomFor_2 {p : Program} {l : Launch} {e : Env} {s : State} {m : MethodId} {args : Array Value} {below : List Frame} {meth : Method} {c : Code} {A : Nat → Prop} {D : va_G} {k : Nat → ClassId} {gL : Nat → Nat} {gU : Nat → Nat} {gT : Nat → Nat} {go : Nat → Nat → Nat} {gB : Nat → Nat} (C : Cx p s m args meth c D k "PromotionTill$Planner" b_Planner_roomFor 5 (some .int) A) (N : Nat) (υ : St) (τ : St) (ω : Nat → St) (β : St) (post : Int32 → ((St)) → Prop) :
    ∀ (n : Nat) (x3 : Int32) (κ : (St)) (H : Heap) (locs : List Loc) (ls : Array Slot), va_P D CL (wPlanner k gL κ (gU 0) ++ (wUses k gU υ ++ (wTariff k gT τ (fun i => some (go i 0)) ++ (wOffer k (go 0) (ω 0) ++ (wOffer k (go 1) (ω 1) ++ (wOffer k (go 2) (ω 2) ++ (wOffer k (go 3) (ω 3) ++ (wOffer k (go 4) (ω 4) ++ (wOffer k (go 5) (ω 5) ++ (wBasket k gB β)))))))))) H → va_D A (wPlanner k gL κ (gU 0) ++ (wUses k gU υ ++ (wTariff k gT τ (fun i => some (go i 0)) ++ (wOffer k (go 0) (ω 0) ++ (wOffer k (go 1) (ω 1) ++ (wOffer k (go 2) (ω 2) ++ (wOffer k (go 3) (ω 3) ++ (wOffer k (go 4) (ω 4) ++ (wOffer k (go 5) (ω 5) ++ (wBasket k gB β)))))))))) → va_S A s.heap H locs → lv_has ls 5 [(0, .ref (gL 0)), (1, .ref (gT 0)), (2, .ref (gB 0)), (3, .int x3)] → wp_Planner_roomFor_2 N υ τ ω β post n x3 κ → W p l e rm_Planner_roomFor s m args below meth c H locs 0 0 (MQ below (va_Qi post (fun (u : (St)) t => va_P D CL (wPlanner k gL u (gU 0) ++ (wUses k gU υ ++ (wTariff k gT τ (fun i => some (go i 0)) ++ (wOffer k (go 0) (ω 0) ++ (wOffer k (go 1) (ω 1) ++ (wOffer k (go 2) (ω 2) ++ (wOffer k (go 3) (ω 3) ++ (wOffer k (go 4) (ω 4) ++ (wOffer k (go 5) (ω 5) ++ (wBasket k gB β)))))))))) t.heap ∧ va_D A (wPlanner k gL u (gU 0) ++ (wUses k gU υ ++ (wTariff k gT τ (fun i => some (go i 0)) ++ (wOffer k (go 0) (ω 0) ++ (wOffer k (go 1) (ω 1) ++ (wOffer k (go 2) (ω 2) ++ (wOffer k (go 3) (ω 3) ++ (wOffer k (go 4) (ω 4) ++ (wOffer k (go 5) (ω 5) ++ (wBasket k gB β))))))))))) A) args s rm_Planner_roomFor.cells rm_Planner_roomFor.slots A) (F0 m 2 ls []) := by
  obtain ⟨hx, hb, hr, hlk, hml, hown, hts, hK, hA⟩ := id C
  intro n
  induction n with
  | zero =>
    intro x3 κ H locs ls hP hD hS hl h
    exact absurd h (by simp [wp_Planner_roomFor_2])
  | succ n ih =>
    intro x3 κ H locs ls hP hD hS hl h
    rw [wp_Planner_roomFor_2] at h
    refine lv_iload_n hx hb d_Planner_roomFor_2 rfl (lv_at hl 3 rfl) ?_
    refine lv_bipush (v := 12) hx hb d_Planner_roomFor_3 (by decide) ?_
    refine lv_icmp_ge (tgt := 37) hx hb d_Planner_roomFor_5 (by decide) (fun c1 => ?_) (fun c1 => ?_)
    · replace h := h.1 c1
      refine lv_iconst (v := 0) hx hb d_Planner_roomFor_37 (by decide) ?_
      refine lv_istore_n (lv' := [(3, .int 0), (0, .ref (gL 0)), (1, .ref (gT 0)), (2, .ref (gB 0))]) hx hb d_Planner_roomFor_38 rfl hl (by decide) rfl (fun ls hl => ?_)
      exact t_Planner_roomFor_39 C N υ τ ω β post   N 0 κ _ _ _ hP hD hS (lv_sub hl [1, 2, 0] rfl) h
    · replace h := h.2 c1
      refine lv_aload_n hx hb d_Planner_roomFor_8 rfl (lv_at hl 0 rfl) ?_
      refine va_get (D := D) (ci := 3) (v := .ref (gL 1)) (C := R_Planner) (T := F_Planner) (N := 6) hx hb hts in_Planner hown hK hP 0 rfl rfl 0 (by decide) (hts _ kw_158) (fun _ h9 => h9) rfl d_Planner_roomFor_9 ?_
      refine lv_iload_n hx hb d_Planner_roomFor_12 rfl (lv_at hl 3 rfl) ?_
      refine lv_aload_n hx hb d_Planner_roomFor_13 rfl (lv_at hl 1 rfl) ?_
      refine lv_iload_n hx hb d_Planner_roomFor_14 rfl (lv_at hl 3 rfl) ?_
      refine call_i (wr := [(gL 0, .inr (3, [.ref (gL 1), .ref (gL 2), .ref (gL 3), .ref (gL 4), .ref (gU 0), .int (κ 5 0)])), (gL 1, .inl (k 0, 18, .inl (κ 0))), (gL 2, .inl (k 0, 18, .inl (κ 1))), (gL 3, .inl (k 0, 18, .inl (κ 2))), (gL 4, .inl (k 0, 3000, .inl (κ 3))), (gU 0, .inr (6, [.ref (gU 1), .ref (gU 2), .ref (gU 3), .ref (gU 4), .ref (gU 5), .ref (gU 6), .ref (gU 7), .ref (gU 8), .int (υ 8 0), .int (υ 9 0)])), (gU 1, .inl (k 0, 1260, .inl (υ 0))), (gU 2, .inl (k 0, 1260, .inl (υ 1))), (gU 3, .inl (k 0, 1260, .inl (υ 2))), (gU 4, .inl (k 0, 1260, .inl (υ 3))), (gU 5, .inl (k 0, 12, .inl (υ 4))), (gU 6, .inl (k 0, 12, .inl (υ 5))), (gU 7, .inl (k 0, 12, .inl (υ 6))), (gU 8, .inl (k 0, 1024, .inl (υ 7))), (gB 0, .inr (0, [.ref (gB 1), .int (β 1 0)])), (gB 1, .inl (k 0, 10, .inl (β 0)))]) (wn := (fun u2 : Unit => wPlanner k gL κ (gU 0) ++ (wUses k gU υ ++ (wTariff k gT τ (fun i => some (go i 0)) ++ (wOffer k (go 0) (ω 0) ++ (wOffer k (go 1) (ω 1) ++ (wOffer k (go 2) (ω 2) ++ (wOffer k (go 3) (ω 3) ++ (wOffer k (go 4) (ω 4) ++ (wOffer k (go 5) (ω 5) ++ (wBasket k gB β))))))))))) C hP hD hS [14, 15, 16, 17, 18, 19, 20, 21, 22, 23, 24, 25, 26, 27, 28] [0, 1, 2, 3, 4, 5, 6, 7, 8, 9, 10, 11, 12, 13, 29, 30] [0, 1, 2, 3, 4, 5, 6, 7, 8, 9, 10, 11, 12, 13, 16, 17, 18, 19, 20, 21, 22, 23, 24, 25, 26, 27, 28, 29, 30, 14, 15] rfl rfl (by decide) (by decide) (fun _ => rfl) (by decide) (runV (As := [.int x3]) (rest := [.int x3, .ref (gL 1)]) C (hP.sub [14, 15, 16, 17, 18, 19, 20, 21, 22, 23, 24, 25, 26, 27, 28] rfl) (hD.sub [14, 15, 16, 17, 18, 19, 20, 21, 22, 23, 24, 25, 26, 27, 28] (by decide) rfl) (m_Tariff_looksAt N gT go τ ω x3  _ h H.size) kw_435 kw_436 kw_437 kw_2 kw_438 hd_Tariff_looksAt ⟨Nat.le_of_ble_eq_true rfl, Nat.le_of_ble_eq_true rfl⟩ ⟨Nat.le_of_ble_eq_true rfl, Nat.le_of_ble_eq_true rfl⟩ 0 rfl rfl rfl rfl hl.1 (Nat.le_of_ble_eq_true rfl) d_Planner_roomFor_15) (fun r3 u2 H locs h hP hD hS => ?_)
      try dsimp only at h
      refine lv_if_eq (tgt := 29) hx hb d_Planner_roomFor_18 (by decide) (fun c4 => ?_) (fun c4 => ?_)
      · replace h := h.1 c4
        refine lv_iconst (v := 0) hx hb d_Planner_roomFor_29 (by decide) ?_
        exact t_Planner_roomFor_30 C N υ τ ω β post (wp_Planner_roomFor_2 N υ τ ω β post n) ih x3 0 x3 κ _ _ _ hP hD hS (lv_sub hl [0, 1, 2, 3] rfl) h
      · replace h := h.2 c4
        refine lv_aload_n hx hb d_Planner_roomFor_21 rfl (lv_at hl 2 rfl) ?_
        refine lv_iload_n hx hb d_Planner_roomFor_22 rfl (lv_at hl 3 rfl) ?_
        refine call_i (wr := [(gL 0, .inr (3, [.ref (gL 1), .ref (gL 2), .ref (gL 3), .ref (gL 4), .ref (gU 0), .int (κ 5 0)])), (gL 1, .inl (k 0, 18, .inl (κ 0))), (gL 2, .inl (k 0, 18, .inl (κ 1))), (gL 3, .inl (k 0, 18, .inl (κ 2))), (gL 4, .inl (k 0, 3000, .inl (κ 3))), (gU 0, .inr (6, [.ref (gU 1), .ref (gU 2), .ref (gU 3), .ref (gU 4), .ref (gU 5), .ref (gU 6), .ref (gU 7), .ref (gU 8), .int (υ 8 0), .int (υ 9 0)])), (gU 1, .inl (k 0, 1260, .inl (υ 0))), (gU 2, .inl (k 0, 1260, .inl (υ 1))), (gU 3, .inl (k 0, 1260, .inl (υ 2))), (gU 4, .inl (k 0, 1260, .inl (υ 3))), (gU 5, .inl (k 0, 12, .inl (υ 4))), (gU 6, .inl (k 0, 12, .inl (υ 5))), (gU 7, .inl (k 0, 12, .inl (υ 6))), (gU 8, .inl (k 0, 1024, .inl (υ 7))), (gT 0, .inr (5, [.ref (gT 1), .ref (gT 2)])), (gT 1, .inl (k 0, 12, .inl (τ 0))), (gT 2, .inl (k 3, 6, .inr (.inr (.inr (.inr (fun i => some (go i 0))))))), ((go 0) 0, .inr (1, [.int ((ω 0) 0 0), .int ((ω 0) 1 0), .int ((ω 0) 2 0), .int ((ω 0) 3 0), .int ((ω 0) 4 0), .ref ((go 0) 1)])), ((go 0) 1, .inl (k 0, 4, .inl ((ω 0) 5))), ((go 1) 0, .inr (1, [.int ((ω 1) 0 0), .int ((ω 1) 1 0), .int ((ω 1) 2 0), .int ((ω 1) 3 0), .int ((ω 1) 4 0), .ref ((go 1) 1)])), ((go 1) 1, .inl (k 0, 4, .inl ((ω 1) 5))), ((go 2) 0, .inr (1, [.int ((ω 2) 0 0), .int ((ω 2) 1 0), .int ((ω 2) 2 0), .int ((ω 2) 3 0), .int ((ω 2) 4 0), .ref ((go 2) 1)])), ((go 2) 1, .inl (k 0, 4, .inl ((ω 2) 5))), ((go 3) 0, .inr (1, [.int ((ω 3) 0 0), .int ((ω 3) 1 0), .int ((ω 3) 2 0), .int ((ω 3) 3 0), .int ((ω 3) 4 0), .ref ((go 3) 1)])), ((go 3) 1, .inl (k 0, 4, .inl ((ω 3) 5))), ((go 4) 0, .inr (1, [.int ((ω 4) 0 0), .int ((ω 4) 1 0), .int ((ω 4) 2 0), .int ((ω 4) 3 0), .int ((ω 4) 4 0), .ref ((go 4) 1)])), ((go 4) 1, .inl (k 0, 4, .inl ((ω 4) 5))), ((go 5) 0, .inr (1, [.int ((ω 5) 0 0), .int ((ω 5) 1 0), .int ((ω 5) 2 0), .int ((ω 5) 3 0), .int ((ω 5) 4 0), .ref ((go 5) 1)])), ((go 5) 1, .inl (k 0, 4, .inl ((ω 5) 5)))]) (wn := (fun u5 : Unit => wPlanner k gL κ (gU 0) ++ (wUses k gU υ ++ (wTariff k gT τ (fun i => some (go i 0)) ++ (wOffer k (go 0) (ω 0) ++ (wOffer k (go 1) (ω 1) ++ (wOffer k (go 2) (ω 2) ++ (wOffer k (go 3) (ω 3) ++ (wOffer k (go 4) (ω 4) ++ (wOffer k (go 5) (ω 5) ++ (wBasket k gB β))))))))))) C hP hD hS [29, 30] [0, 1, 2, 3, 4, 5, 6, 7, 8, 9, 10, 11, 12, 13, 14, 15, 16, 17, 18, 19, 20, 21, 22, 23, 24, 25, 26, 27, 28] [0, 1, 2, 3, 4, 5, 6, 7, 8, 9, 10, 11, 12, 13, 14, 15, 16, 17, 18, 19, 20, 21, 22, 23, 24, 25, 26, 27, 28, 29, 30] rfl rfl (by decide) (by decide) (fun _ => rfl) (by decide) (runV (As := [.int x3]) (rest := [.int x3, .ref (gL 1)]) C (hP.sub [29, 30] rfl) (hD.sub [29, 30] (by decide) rfl) (m_Basket_countOf N gB β x3  _ h H.size) kw_451 kw_452 kw_453 kw_5 kw_454 hd_Basket_countOf ⟨Nat.le_of_ble_eq_true rfl, Nat.le_of_ble_eq_true rfl⟩ ⟨Nat.le_of_ble_eq_true rfl, Nat.le_of_ble_eq_true rfl⟩ 0 rfl rfl rfl rfl hl.1 (Nat.le_of_ble_eq_true rfl) d_Planner_roomFor_23) (fun r6 u5 H locs h hP hD hS => ?_)
        try dsimp only at h
        refine lv_goto (tgt := 30) hx hb d_Planner_roomFor_26 (by decide) ?_
        exact t_Planner_roomFor_30 C N υ τ ω β post (wp_Planner_roomFor_2 N υ τ ω β post n) ih x3 r6 x3 κ _ _ _ hP hD hS (lv_sub hl [0, 1, 2, 3] rfl) h
set_option maxHeartbeats 4000000 in
set_option maxRecDepth 100000 in
theorem m_Planner_roomFor {l : Launch} {D : va_G} {k : Nat → ClassId} (N : Nat) (gL : Nat → Nat) (gU : Nat → Nat) (gT : Nat → Nat) (go : Nat → Nat → Nat) (gB : Nat → Nat) (κ : St) (υ : St) (τ : St) (ω : Nat → St) (β : St) (post : Int32 → ((St)) → Prop) (h : wp_Planner_roomFor N  κ υ τ ω β  post) : Ci l D k y_Planner_roomFor b_Planner_roomFor 5 .int rm_Planner_roomFor [.ref (gL 0), .ref (gT 0), .ref (gB 0)] (wPlanner k gL κ (gU 0) ++ (wUses k gU υ ++ (wTariff k gT τ (fun i => some (go i 0)) ++ (wOffer k (go 0) (ω 0) ++ (wOffer k (go 1) (ω 1) ++ (wOffer k (go 2) (ω 2) ++ (wOffer k (go 3) (ω 3) ++ (wOffer k (go 4) (ω 4) ++ (wOffer k (go 5) (ω 5) ++ (wBasket k gB β)))))))))) (fun u : (St) => wPlanner k gL u (gU 0) ++ (wUses k gU υ ++ (wTariff k gT τ (fun i => some (go i 0)) ++ (wOffer k (go 0) (ω 0) ++ (wOffer k (go 1) (ω 1) ++ (wOffer k (go 2) (ω 2) ++ (wOffer k (go 3) (ω 3) ++ (wOffer k (go 4) (ω 4) ++ (wOffer k (go 5) (ω 5) ++ (wBasket k gB β)))))))))) post := by
  refine Ci.of (by decide) (Nat.le_of_ble_eq_true rfl) ?_
  intro p e s m below meth c A H locs ls C hP hD hS hl
  obtain ⟨hx, hb, hr, hlk, hml, hown, hts, hK, hA⟩ := id C
  replace hl : lv_has ls 5 [(0, .ref (gL 0)), (1, .ref (gT 0)), (2, .ref (gB 0))] := hl
  unfold wp_Planner_roomFor at h
  refine lv_iconst (v := 0) hx hb d_Planner_roomFor_0 (by decide) ?_
  refine lv_istore_n (lv' := [(3, .int 0), (0, .ref (gL 0)), (1, .ref (gT 0)), (2, .ref (gB 0))]) hx hb d_Planner_roomFor_1 rfl hl (by decide) rfl (fun ls hl => ?_)
  exact t_Planner_roomFor_2 C N υ τ ω β post   N 0 κ _ _ _ hP hD hS (lv_sub hl [1, 2, 3, 0] rfl) h
set_option maxHeartbeats 4000000 in
set_option maxRecDepth 100000 in
theorem t_Planner_takeUse_87 {p : Program} {l : Launch} {e : Env} {s : State} {m : MethodId} {args : Array Value} {below : List Frame} {meth : Method} {c : Code} {A : Nat → Prop} {D : va_G} {k : Nat → ClassId} {gL : Nat → Nat} {gU : Nat → Nat} {gB : Nat → Nat} {gP : Nat → Nat} {gR : Nat → Nat} (C : Cx p s m args meth c D k "PromotionTill$Planner" b_Planner_takeUse 7 none A) (N : Nat) (υ : St) (β : St) (post : ((St) × (St) × (Nat → Int64)) → Prop) :
    ∀ (x1 : Int32) (κ : (St)) (π : (St)) (ρ : (Nat → Int64)) (H : Heap) (locs : List Loc) (ls : Array Slot), va_P D CL (wPlanner k gL κ (gU 0) ++ (wUses k gU υ ++ (wBasket k gB β ++ (wPlan k gP π (gR 0) ++ (wRem k gR ρ))))) H → va_D A (wPlanner k gL κ (gU 0) ++ (wUses k gU υ ++ (wBasket k gB β ++ (wPlan k gP π (gR 0) ++ (wRem k gR ρ))))) → va_S A s.heap H locs → lv_has ls 7 [(0, .ref (gL 0)), (1, .int x1), (2, .ref (gB 0)), (3, .ref (gP 0))] → wp_Planner_takeUse_87 N υ β post x1 κ π ρ → W p l e rm_Planner_takeUse s m args below meth c H locs 0 0 (MQ below (va_Qv post (fun (u : (St) × (St) × (Nat → Int64)) t => va_P D CL (wPlanner k gL u.1 (gU 0) ++ (wUses k gU υ ++ (wBasket k gB β ++ (wPlan k gP u.2.1 (gR 0) ++ (wRem k gR u.2.2))))) t.heap ∧ va_D A (wPlanner k gL u.1 (gU 0) ++ (wUses k gU υ ++ (wBasket k gB β ++ (wPlan k gP u.2.1 (gR 0) ++ (wRem k gR u.2.2)))))) A) args s rm_Planner_takeUse.cells rm_Planner_takeUse.slots A) (F0 m 87 ls []) := by
  obtain ⟨hx, hb, hr, hlk, hml, hown, hts, hK, hA⟩ := id C
  intro x1 κ π ρ H locs ls hP hD hS hl h
  unfold wp_Planner_takeUse_87 at h
  refine lv_aload_n hx hb d_Planner_takeUse_87 rfl (lv_at hl 3 rfl) ?_
  refine lv_aload_n hx hb d_Planner_takeUse_88 rfl (lv_at hl 2 rfl) ?_
  refine lv_aload_n hx hb d_Planner_takeUse_89 rfl (lv_at hl 0 rfl) ?_
  refine va_get (D := D) (ci := 3) (v := .ref (gU 0)) (C := R_Planner) (T := F_Planner) (N := 6) hx hb hts in_Planner hown hK hP 0 rfl rfl 4 (by decide) (hts _ kw_162) (fun _ h9 => h9) rfl d_Planner_takeUse_90 ?_
  refine lv_iload_n hx hb d_Planner_takeUse_93 rfl (lv_at hl 1 rfl) ?_
  refine call_i (wr := [(gL 0, .inr (3, [.ref (gL 1), .ref (gL 2), .ref (gL 3), .ref (gL 4), .ref (gU 0), .int (κ 5 0)])), (gL 1, .inl (k 0, 18, .inl (κ 0))), (gL 2, .inl (k 0, 18, .inl (κ 1))), (gL 3, .inl (k 0, 18, .inl (κ 2))), (gL 4, .inl (k 0, 3000, .inl (κ 3))), (gB 0, .inr (0, [.ref (gB 1), .int (β 1 0)])), (gB 1, .inl (k 0, 10, .inl (β 0))), (gP 0, .inr (2, [.ref (gP 1), .ref (gP 2), .ref (gP 3), .int (π 3 0), .ref (gP 4), .ref (gR 0)])), (gP 1, .inl (k 0, 10, .inl (π 0))), (gP 2, .inl (k 0, 10, .inl (π 1))), (gP 3, .inl (k 0, 10, .inl (π 2))), (gP 4, .inl (k 1, 10, .inl (π 4))), (gR 0, .inl (k 2, 10, .inr (.inl ρ)))]) (wn := (fun u19 : Unit => wPlanner k gL κ (gU 0) ++ (wUses k gU υ ++ (wBasket k gB β ++ (wPlan k gP π (gR 0) ++ (wRem k gR ρ)))))) C hP hD hS [5, 6, 7, 8, 9, 10, 11, 12, 13] [0, 1, 2, 3, 4, 14, 15, 16, 17, 18, 19, 20, 21] [0, 1, 2, 3, 4, 13, 14, 15, 16, 17, 18, 19, 20, 21, 5, 6, 7, 8, 9, 10, 11, 12] rfl rfl (by decide) (by decide) (fun _ => rfl) (by decide) (runV (As := [.int x1]) (rest := [.ref (gB 0), .ref (gP 0)]) C (hP.sub [5, 6, 7, 8, 9, 10, 11, 12, 13] rfl) (hD.sub [5, 6, 7, 8, 9, 10, 11, 12, 13] (by decide) rfl) (m_Uses_savingOf N gU υ x1  _ h H.size) kw_579 kw_580 kw_581 kw_7 kw_582 hd_Uses_savingOf ⟨Nat.le_of_ble_eq_true rfl, Nat.le_of_ble_eq_true rfl⟩ ⟨Nat.le_of_ble_eq_true rfl, Nat.le_of_ble_eq_true rfl⟩ 0 rfl rfl rfl rfl hl.1 (Nat.le_of_ble_eq_true rfl) d_Planner_takeUse_94) (fun r20 u19 H locs h hP hD hS => ?_)
  try dsimp only at h
  refine call_v (wr := [(gL 0, .inr (3, [.ref (gL 1), .ref (gL 2), .ref (gL 3), .ref (gL 4), .ref (gU 0), .int (κ 5 0)])), (gL 1, .inl (k 0, 18, .inl (κ 0))), (gL 2, .inl (k 0, 18, .inl (κ 1))), (gL 3, .inl (k 0, 18, .inl (κ 2))), (gL 4, .inl (k 0, 3000, .inl (κ 3))), (gU 0, .inr (6, [.ref (gU 1), .ref (gU 2), .ref (gU 3), .ref (gU 4), .ref (gU 5), .ref (gU 6), .ref (gU 7), .ref (gU 8), .int (υ 8 0), .int (υ 9 0)])), (gU 1, .inl (k 0, 1260, .inl (υ 0))), (gU 2, .inl (k 0, 1260, .inl (υ 1))), (gU 3, .inl (k 0, 1260, .inl (υ 2))), (gU 4, .inl (k 0, 1260, .inl (υ 3))), (gU 5, .inl (k 0, 12, .inl (υ 4))), (gU 6, .inl (k 0, 12, .inl (υ 5))), (gU 7, .inl (k 0, 12, .inl (υ 6))), (gU 8, .inl (k 0, 1024, .inl (υ 7)))]) (wn := (fun u21 : (St) × (Nat → Int64) => wPlanner k gL κ (gU 0) ++ (wUses k gU υ ++ (wBasket k gB β ++ (wPlan k gP u21.1 (gR 0) ++ (wRem k gR u21.2)))))) C hP hD hS [16, 17, 18, 19, 20, 21, 14, 15] [0, 1, 2, 3, 4, 5, 6, 7, 8, 9, 10, 11, 12, 13] [0, 1, 2, 3, 4, 5, 6, 7, 8, 9, 10, 11, 12, 13, 20, 21, 14, 15, 16, 17, 18, 19] rfl rfl (by decide) (by decide) (fun _ => rfl) (by decide) (runV (As := [.ref (gB 0), .int r20]) (rest := []) C (hP.sub [16, 17, 18, 19, 20, 21, 14, 15] rfl) (hD.sub [16, 17, 18, 19, 20, 21, 14, 15] (by decide) rfl) (m_Plan_endUse N gP gR gB π ρ β r20  _ h H.size) kw_638 kw_639 kw_640 kw_8 kw_641 hd_Plan_endUse ⟨Nat.le_of_ble_eq_true rfl, Nat.le_of_ble_eq_true rfl⟩ ⟨Nat.le_of_ble_eq_true rfl, Nat.le_of_ble_eq_true rfl⟩ 0 rfl rfl rfl rfl hl.1 (Nat.le_of_ble_eq_true rfl) d_Planner_takeUse_97) (fun u21 H locs h hP hD hS => ?_)
  try dsimp only at h
  exact ret_v (u := (κ, u21.1, u21.2)) (wf := (fun u : (St) × (St) × (Nat → Int64) => wPlanner k gL u.1 (gU 0) ++ (wUses k gU υ ++ (wBasket k gB β ++ (wPlan k gP u.2.1 (gR 0) ++ (wRem k gR u.2.2)))))) C hP hD hS (Nat.zero_le _) (Nat.zero_le _) h d_Planner_takeUse_100
set_option maxHeartbeats 4000000 in
set_option maxRecDepth 100000 in
theorem t_Planner_takeUse_13 {p : Program} {l : Launch} {e : Env} {s : State} {m : MethodId} {args : Array Value} {below : List Frame} {meth : Method} {c : Code} {A : Nat → Prop} {D : va_G} {k : Nat → ClassId} {gL : Nat → Nat} {gU : Nat → Nat} {gB : Nat → Nat} {gP : Nat → Nat} {gR : Nat → Nat} (C : Cx p s m args meth c D k "PromotionTill$Planner" b_Planner_takeUse 7 none A) (N : Nat) (υ : St) (β : St) (post : ((St) × (St) × (Nat → Int64)) → Prop) :
    ∀ (n : Nat) (x1 : Int32) (x4 : Int32) (x5 : Int32) (κ : (St)) (π : (St)) (ρ : (Nat → Int64)) (H : Heap) (locs : List Loc) (ls : Array Slot), va_P D CL (wPlanner k gL κ (gU 0) ++ (wUses k gU υ ++ (wBasket k gB β ++ (wPlan k gP π (gR 0) ++ (wRem k gR ρ))))) H → va_D A (wPlanner k gL κ (gU 0) ++ (wUses k gU υ ++ (wBasket k gB β ++ (wPlan k gP π (gR 0) ++ (wRem k gR ρ))))) → va_S A s.heap H locs → lv_has ls 7 [(0, .ref (gL 0)), (1, .int x1), (2, .ref (gB 0)), (3, .ref (gP 0)), (4, .int x4), (5, .int x5)] → wp_Planner_takeUse_13 N υ β post n x1 x4 x5 κ π ρ → W p l e rm_Planner_takeUse s m args below meth c H locs 0 0 (MQ below (va_Qv post (fun (u : (St) × (St) × (Nat → Int64)) t => va_P D CL (wPlanner k gL u.1 (gU 0) ++ (wUses k gU υ ++ (wBasket k gB β ++ (wPlan k gP u.2.1 (gR 0) ++ (wRem k gR u.2.2))))) t.heap ∧ va_D A (wPlanner k gL u.1 (gU 0) ++ (wUses k gU υ ++ (wBasket k gB β ++ (wPlan k gP u.2.1 (gR 0) ++ (wRem k gR u.2.2)))))) A) args s rm_Planner_takeUse.cells rm_Planner_takeUse.slots A) (F0 m 13 ls []) := by
  obtain ⟨hx, hb, hr, hlk, hml, hown, hts, hK, hA⟩ := id C
  intro n
  induction n with
  | zero =>
    intro x1 x4 x5 κ π ρ H locs ls hP hD hS hl h
    exact absurd h (by simp [wp_Planner_takeUse_13])
  | succ n ih =>
    intro x1 x4 x5 κ π ρ H locs ls hP hD hS hl h
    rw [wp_Planner_takeUse_13] at h
    refine lv_iload hx hb d_Planner_takeUse_13 (lv_at hl 5 rfl) ?_
    refine lv_aload_n hx hb d_Planner_takeUse_15 rfl (lv_at hl 0 rfl) ?_
    refine va_get (D := D) (ci := 3) (v := .ref (gU 0)) (C := R_Planner) (T := F_Planner) (N := 6) hx hb hts in_Planner hown hK hP 0 rfl rfl 4 (by decide) (hts _ kw_162) (fun _ h9 => h9) rfl d_Planner_takeUse_16 ?_
    refine lv_iload_n hx hb d_Planner_takeUse_19 rfl (lv_at hl 1 rfl) ?_
    refine call_i (wr := [(gL 0, .inr (3, [.ref (gL 1), .ref (gL 2), .ref (gL 3), .ref (gL 4), .ref (gU 0), .int (κ 5 0)])), (gL 1, .inl (k 0, 18, .inl (κ 0))), (gL 2, .inl (k 0, 18, .inl (κ 1))), (gL 3, .inl (k 0, 18, .inl (κ 2))), (gL 4, .inl (k 0, 3000, .inl (κ 3))), (gB 0, .inr (0, [.ref (gB 1), .int (β 1 0)])), (gB 1, .inl (k 0, 10, .inl (β 0))), (gP 0, .inr (2, [.ref (gP 1), .ref (gP 2), .ref (gP 3), .int (π 3 0), .ref (gP 4), .ref (gR 0)])), (gP 1, .inl (k 0, 10, .inl (π 0))), (gP 2, .inl (k 0, 10, .inl (π 1))), (gP 3, .inl (k 0, 10, .inl (π 2))), (gP 4, .inl (k 1, 10, .inl (π 4))), (gR 0, .inl (k 2, 10, .inr (.inl ρ)))]) (wn := (fun u3 : Unit => wPlanner k gL κ (gU 0) ++ (wUses k gU υ ++ (wBasket k gB β ++ (wPlan k gP π (gR 0) ++ (wRem k gR ρ)))))) C hP hD hS [5, 6, 7, 8, 9, 10, 11, 12, 13] [0, 1, 2, 3, 4, 14, 15, 16, 17, 18, 19, 20, 21] [0, 1, 2, 3, 4, 13, 14, 15, 16, 17, 18, 19, 20, 21, 5, 6, 7, 8, 9, 10, 11, 12] rfl rfl (by decide) (by decide) (fun _ => rfl) (by decide) (runV (As := [.int x1]) (rest := [.int x5]) C (hP.sub [5, 6, 7, 8, 9, 10, 11, 12, 13] rfl) (hD.sub [5, 6, 7, 8, 9, 10, 11, 12, 13] (by decide) rfl) (m_Uses_unitsOf N gU υ x1  _ h H.size) kw_599 kw_600 kw_601 kw_7 kw_602 hd_Uses_unitsOf ⟨Nat.le_of_ble_eq_true rfl, Nat.le_of_ble_eq_true rfl⟩ ⟨Nat.le_of_ble_eq_true rfl, Nat.le_of_ble_eq_true rfl⟩ 0 rfl rfl rfl rfl hl.1 (Nat.le_of_ble_eq_true rfl) d_Planner_takeUse_20) (fun r4 u3 H locs h hP hD hS => ?_)
    try dsimp only at h
    refine lv_icmp_ge (tgt := 64) hx hb d_Planner_takeUse_23 (by decide) (fun c5 => ?_) (fun c5 => ?_)
    · replace h := h.1 c5
      refine lv_aload_n hx hb d_Planner_takeUse_64 rfl (lv_at hl 0 rfl) ?_
      refine lv_iload hx hb d_Planner_takeUse_65 (lv_at hl 4 rfl) ?_
      refine call_i (wr := [(gB 0, .inr (0, [.ref (gB 1), .int (β 1 0)])), (gB 1, .inl (k 0, 10, .inl (β 0))), (gP 0, .inr (2, [.ref (gP 1), .ref (gP 2), .ref (gP 3), .int (π 3 0), .ref (gP 4), .ref (gR 0)])), (gP 1, .inl (k 0, 10, .inl (π 0))), (gP 2, .inl (k 0, 10, .inl (π 1))), (gP 3, .inl (k 0, 10, .inl (π 2))), (gP 4, .inl (k 1, 10, .inl (π 4))), (gR 0, .inl (k 2, 10, .inr (.inl ρ)))]) (wn := (fun u6 : Unit => wPlanner k gL κ (gU 0) ++ (wUses k gU υ ++ (wBasket k gB β ++ (wPlan k gP π (gR 0) ++ (wRem k gR ρ)))))) C hP hD hS [0, 1, 2, 3, 4, 5, 6, 7, 8, 9, 10, 11, 12, 13] [14, 15, 16, 17, 18, 19, 20, 21] [8, 9, 10, 11, 12, 13, 14, 15, 16, 17, 18, 19, 20, 21, 0, 1, 2, 3, 4, 5, 6, 7] rfl rfl (by decide) (by decide) (fun _ => rfl) (by decide) (runV (As := [.int x4]) (rest := []) C (hP.sub [0, 1, 2, 3, 4, 5, 6, 7, 8, 9, 10, 11, 12, 13] rfl) (hD.sub [0, 1, 2, 3, 4, 5, 6, 7, 8, 9, 10, 11, 12, 13] (by decide) rfl) (m_Planner_isLimited N gL gU κ υ x4  _ h H.size) kw_595 kw_597 kp_15 kw_6 kw_598 hd_Planner_isLimited ⟨Nat.le_of_ble_eq_true rfl, Nat.le_of_ble_eq_true rfl⟩ ⟨Nat.le_of_ble_eq_true rfl, Nat.le_of_ble_eq_true rfl⟩ 0 rfl rfl rfl rfl hl.1 (Nat.le_of_ble_eq_true rfl) d_Planner_takeUse_67) (fun r7 u6 H locs h hP hD hS => ?_)
      try dsimp only at h
      refine lv_if_eq (tgt := 87) hx hb d_Planner_takeUse_70 (by decide) (fun c8 => ?_) (fun c8 => ?_)
      · replace h := h.1 c8
        exact t_Planner_takeUse_87 C N υ β post x1 κ π ρ _ _ _ hP hD hS (lv_sub hl [0, 1, 2, 3] rfl) h
      · replace h := h.2 c8
        refine lv_aload_n hx hb d_Planner_takeUse_73 rfl (lv_at hl 0 rfl) ?_
        refine va_get (D := D) (ci := 3) (v := .ref (gL 3)) (C := R_Planner) (T := F_Planner) (N := 6) hx hb hts in_Planner hown hK hP 0 rfl rfl 2 (by decide) (hts _ kw_160) (fun _ h9 => h9) rfl d_Planner_takeUse_74 ?_
        refine lv_bipush (v := 12) hx hb d_Planner_takeUse_77 (by decide) ?_
        refine lv_iload hx hb d_Planner_takeUse_79 (lv_at hl 4 rfl) ?_
        refine lv_iadd hx hb d_Planner_takeUse_81 ?_
        refine lv_dup2_11 hx hb d_Planner_takeUse_82 rfl rfl ?_
        obtain ⟨hi9, h⟩ := h
        refine va_iald hx hb hK hP 3 0 rfl rfl hi9 d_Planner_takeUse_83 ?_
        refine lv_iconst (v := 1) hx hb d_Planner_takeUse_84 (by decide) ?_
        refine lv_isub hx hb d_Planner_takeUse_85 ?_
        obtain ⟨hi10, h⟩ := h
        refine va_iast hx hb hK hP hD hS 3 0 rfl rfl hi10 d_Planner_takeUse_86 (fun H locs hP hD hS => ?_)
        obtain ⟨κ11, eκ11⟩ : ∃ z, z = s2 κ 2 (Int32.toNatClampNeg (12 + x4)) ((κ 2 (Int32.toNatClampNeg (12 + x4))) - 1) := ⟨_, rfl⟩
        replace hP : va_P D CL (wPlanner k gL κ11 (gU 0) ++ (wUses k gU υ ++ (wBasket k gB β ++ (wPlan k gP π (gR 0) ++ (wRem k gR ρ))))) H := by rw [eκ11]; exact hP
        replace hD : va_D A (wPlanner k gL κ11 (gU 0) ++ (wUses k gU υ ++ (wBasket k gB β ++ (wPlan k gP π (gR 0) ++ (wRem k gR ρ))))) := by rw [eκ11]; exact hD
        replace h := h κ11 eκ11
        exact t_Planner_takeUse_87 C N υ β post x1 κ11 π ρ _ _ _ hP hD hS (lv_sub hl [0, 1, 2, 3] rfl) h
    · replace h := h.2 c5
      refine lv_aload_n hx hb d_Planner_takeUse_26 rfl (lv_at hl 0 rfl) ?_
      refine va_get (D := D) (ci := 3) (v := .ref (gU 0)) (C := R_Planner) (T := F_Planner) (N := 6) hx hb hts in_Planner hown hK hP 0 rfl rfl 4 (by decide) (hts _ kw_162) (fun _ h9 => h9) rfl d_Planner_takeUse_27 ?_
      refine lv_iload_n hx hb d_Planner_takeUse_30 rfl (lv_at hl 1 rfl) ?_
      refine lv_iload hx hb d_Planner_takeUse_31 (lv_at hl 5 rfl) ?_
      refine call_i (wr := [(gL 0, .inr (3, [.ref (gL 1), .ref (gL 2), .ref (gL 3), .ref (gL 4), .ref (gU 0), .int (κ 5 0)])), (gL 1, .inl (k 0, 18, .inl (κ 0))), (gL 2, .inl (k 0, 18, .inl (κ 1))), (gL 3, .inl (k 0, 18, .inl (κ 2))), (gL 4, .inl (k 0, 3000, .inl (κ 3))), (gB 0, .inr (0, [.ref (gB 1), .int (β 1 0)])), (gB 1, .inl (k 0, 10, .inl (β 0))), (gP 0, .inr (2, [.ref (gP 1), .ref (gP 2), .ref (gP 3), .int (π 3 0), .ref (gP 4), .ref (gR 0)])), (gP 1, .inl (k 0, 10, .inl (π 0))), (gP 2, .inl (k 0, 10, .inl (π 1))), (gP 3, .inl (k 0, 10, .inl (π 2))), (gP 4, .inl (k 1, 10, .inl (π 4))), (gR 0, .inl (k 2, 10, .inr (.inl ρ)))]) (wn := (fun u12 : Unit => wPlanner k gL κ (gU 0) ++ (wUses k gU υ ++ (wBasket k gB β ++ (wPlan k gP π (gR 0) ++ (wRem k gR ρ)))))) C hP hD hS [5, 6, 7, 8, 9, 10, 11, 12, 13] [0, 1, 2, 3, 4, 14, 15, 16, 17, 18, 19, 20, 21] [0, 1, 2, 3, 4, 13, 14, 15, 16, 17, 18, 19, 20, 21, 5, 6, 7, 8, 9, 10, 11, 12] rfl rfl (by decide) (by decide) (fun _ => rfl) (by decide) (runV (As := [.int x1, .int x5]) (rest := []) C (hP.sub [5, 6, 7, 8, 9, 10, 11, 12, 13] rfl) (hD.sub [5, 6, 7, 8, 9, 10, 11, 12, 13] (by decide) rfl) (m_Uses_articleOf N gU υ x1 x5  _ h H.size) kw_603 kw_604 kw_605 kw_7 kw_606 hd_Uses_articleOf ⟨Nat.le_of_ble_eq_true rfl, Nat.le_of_ble_eq_true rfl⟩ ⟨Nat.le_of_ble_eq_true rfl, Nat.le_of_ble_eq_true rfl⟩ 0 rfl rfl rfl rfl hl.1 (Nat.le_of_ble_eq_true rfl) d_Planner_takeUse_33) (fun r13 u12 H locs h hP hD hS => ?_)
      try dsimp only at h
      refine lv_istore (lv' := [(6, .int r13), (0, .ref (gL 0)), (1, .int x1), (2, .ref (gB 0)), (3, .ref (gP 0)), (4, .int x4), (5, .int x5)]) hx hb d_Planner_takeUse_36 hl (by decide) rfl (fun ls hl => ?_)
      refine lv_aload_n hx hb d_Planner_takeUse_38 rfl (lv_at hl 4 rfl) ?_
      refine lv_aload_n hx hb d_Planner_takeUse_39 rfl (lv_at hl 3 rfl) ?_
      refine lv_iload hx hb d_Planner_takeUse_40 (lv_at hl 0 rfl) ?_
      refine lv_iload hx hb d_Planner_takeUse_42 (lv_at hl 5 rfl) ?_
      refine call_v (wr := [(gL 0, .inr (3, [.ref (gL 1), .ref (gL 2), .ref (gL 3), .ref (gL 4), .ref (gU 0), .int (κ 5 0)])), (gL 1, .inl (k 0, 18, .inl (κ 0))), (gL 2, .inl (k 0, 18, .inl (κ 1))), (gL 3, .inl (k 0, 18, .inl (κ 2))), (gL 4, .inl (k 0, 3000, .inl (κ 3))), (gU 0, .inr (6, [.ref (gU 1), .ref (gU 2), .ref (gU 3), .ref (gU 4), .ref (gU 5), .ref (gU 6), .ref (gU 7), .ref (gU 8), .int (υ 8 0), .int (υ 9 0)])), (gU 1, .inl (k 0, 1260, .inl (υ 0))), (gU 2, .inl (k 0, 1260, .inl (υ 1))), (gU 3, .inl (k 0, 1260, .inl (υ 2))), (gU 4, .inl (k 0, 1260, .inl (υ 3))), (gU 5, .inl (k 0, 12, .inl (υ 4))), (gU 6, .inl (k 0, 12, .inl (υ 5))), (gU 7, .inl (k 0, 12, .inl (υ 6))), (gU 8, .inl (k 0, 1024, .inl (υ 7)))]) (wn := (fun u14 : (St) => wPlanner k gL κ (gU 0) ++ (wUses k gU υ ++ (wBasket k gB β ++ (wPlan k gP u14 (gR 0) ++ (wRem k gR ρ)))))) C hP hD hS [16, 17, 18, 19, 20, 21, 14, 15] [0, 1, 2, 3, 4, 5, 6, 7, 8, 9, 10, 11, 12, 13] [0, 1, 2, 3, 4, 5, 6, 7, 8, 9, 10, 11, 12, 13, 20, 21, 14, 15, 16, 17, 18, 19] rfl rfl (by decide) (by decide) (fun _ => rfl) (by decide) (runV (As := [.ref (gB 0), .int r13, .int x4]) (rest := []) C (hP.sub [16, 17, 18, 19, 20, 21, 14, 15] rfl) (hD.sub [16, 17, 18, 19, 20, 21, 14, 15] (by decide) rfl) (m_Plan_takeIntoUse N gP gR gB π ρ β r13 x4  _ h H.size) kw_634 kw_635 kw_636 kw_8 kw_637 hd_Plan_takeIntoUse ⟨Nat.le_of_ble_eq_true rfl, Nat.le_of_ble_eq_true rfl⟩ ⟨Nat.le_of_ble_eq_true rfl, Nat.le_of_ble_eq_true rfl⟩ 0 rfl rfl rfl rfl hl.1 (Nat.le_of_ble_eq_true rfl) d_Planner_takeUse_44) (fun u14 H locs h hP hD hS => ?_)
      try dsimp only at h
      refine lv_aload_n hx hb d_Planner_takeUse_47 rfl (lv_at hl 1 rfl) ?_
      refine va_get (D := D) (ci := 3) (v := .ref (gL 3)) (C := R_Planner) (T := F_Planner) (N := 6) hx hb hts in_Planner hown hK hP 0 rfl rfl 2 (by decide) (hts _ kw_160) (fun _ h9 => h9) rfl d_Planner_takeUse_48 ?_
      refine lv_iload hx hb d_Planner_takeUse_51 (lv_at hl 0 rfl) ?_
      refine lv_dup2_11 hx hb d_Planner_takeUse_53 rfl rfl ?_
      obtain ⟨hi16, h⟩ := h
      refine va_iald hx hb hK hP 3 0 rfl rfl hi16 d_Planner_takeUse_54 ?_
      refine lv_iconst (v := 1) hx hb d_Planner_takeUse_55 (by decide) ?_
      refine lv_isub hx hb d_Planner_takeUse_56 ?_
      obtain ⟨hi17, h⟩ := h
      refine va_iast hx hb hK hP hD hS 3 0 rfl rfl hi17 d_Planner_takeUse_57 (fun H locs hP hD hS => ?_)
      obtain ⟨κ18, eκ18⟩ : ∃ z, z = s2 κ 2 (Int32.toNatClampNeg r13) ((κ 2 (Int32.toNatClampNeg r13)) - 1) := ⟨_, rfl⟩
      replace hP : va_P D CL (wPlanner k gL κ18 (gU 0) ++ (wUses k gU υ ++ (wBasket k gB β ++ (wPlan k gP u14 (gR 0) ++ (wRem k gR ρ))))) H := by rw [eκ18]; exact hP
      replace hD : va_D A (wPlanner k gL κ18 (gU 0) ++ (wUses k gU υ ++ (wBasket k gB β ++ (wPlan k gP u14 (gR 0) ++ (wRem k gR ρ))))) := by rw [eκ18]; exact hD
      replace h := h κ18 eκ18
      refine lv_iinc (v := x5 + 1) (lv' := [(5, .int (x5 + 1)), (6, .int r13), (0, .ref (gL 0)), (1, .int x1), (2, .ref (gB 0)), (3, .ref (gP 0)), (4, .int x4)]) hx hb d_Planner_takeUse_58 hl (k := 6) rfl rfl (by decide) rfl (fun ls hl => ?_)
      refine lv_goto (tgt := 13) hx hb d_Planner_takeUse_61 (by decide) ?_
      exact ih x1 x4 (x5 + 1) κ18 u14 ρ _ _ _ hP hD hS (lv_sub hl [2, 3, 4, 5, 6, 0] rfl) h
set_option maxHeartbeats 4000000 in
set_option maxRecDepth 100000 in
theorem m_Planner_takeUse {l : Launch} {D : va_G} {k : Nat → ClassId} (N : Nat) (gL : Nat → Nat) (gU : Nat → Nat) (gB : Nat → Nat) (gP : Nat → Nat) (gR : Nat → Nat) (κ : St) (υ : St) (β : St) (π : St) (ρ : Nat → Int64) (x1 : Int32) (post : ((St) × (St) × (Nat → Int64)) → Prop) (h : wp_Planner_takeUse N  κ υ β π ρ x1 post) : Cv l D k y_Planner_takeUse b_Planner_takeUse 7 rm_Planner_takeUse [.ref (gL 0), .int x1, .ref (gB 0), .ref (gP 0)] (wPlanner k gL κ (gU 0) ++ (wUses k gU υ ++ (wBasket k gB β ++ (wPlan k gP π (gR 0) ++ (wRem k gR ρ))))) (fun u : (St) × (St) × (Nat → Int64) => wPlanner k gL u.1 (gU 0) ++ (wUses k gU υ ++ (wBasket k gB β ++ (wPlan k gP u.2.1 (gR 0) ++ (wRem k gR u.2.2))))) post := by
  refine Cv.of (by decide) (Nat.le_of_ble_eq_true rfl) ?_
  intro p e s m below meth c A H locs ls C hP hD hS hl
  obtain ⟨hx, hb, hr, hlk, hml, hown, hts, hK, hA⟩ := id C
  replace hl : lv_has ls 7 [(0, .ref (gL 0)), (1, .int x1), (2, .ref (gB 0)), (3, .ref (gP 0))] := hl
  unfold wp_Planner_takeUse at h
  refine lv_aload_n hx hb d_Planner_takeUse_0 rfl (lv_at hl 0 rfl) ?_
  refine va_get (D := D) (ci := 3) (v := .ref (gU 0)) (C := R_Planner) (T := F_Planner) (N := 6) hx hb hts in_Planner hown hK hP 0 rfl rfl 4 (by decide) (hts _ kw_162) (fun _ h9 => h9) rfl d_Planner_takeUse_1 ?_
  refine lv_iload_n hx hb d_Planner_takeUse_4 rfl (lv_at hl 1 rfl) ?_
  refine call_i (wr := [(gL 0, .inr (3, [.ref (gL 1), .ref (gL 2), .ref (gL 3), .ref (gL 4), .ref (gU 0), .int (κ 5 0)])), (gL 1, .inl (k 0, 18, .inl (κ 0))), (gL 2, .inl (k 0, 18, .inl (κ 1))), (gL 3, .inl (k 0, 18, .inl (κ 2))), (gL 4, .inl (k 0, 3000, .inl (κ 3))), (gB 0, .inr (0, [.ref (gB 1), .int (β 1 0)])), (gB 1, .inl (k 0, 10, .inl (β 0))), (gP 0, .inr (2, [.ref (gP 1), .ref (gP 2), .ref (gP 3), .int (π 3 0), .ref (gP 4), .ref (gR 0)])), (gP 1, .inl (k 0, 10, .inl (π 0))), (gP 2, .inl (k 0, 10, .inl (π 1))), (gP 3, .inl (k 0, 10, .inl (π 2))), (gP 4, .inl (k 1, 10, .inl (π 4))), (gR 0, .inl (k 2, 10, .inr (.inl ρ)))]) (wn := (fun u1 : Unit => wPlanner k gL κ (gU 0) ++ (wUses k gU υ ++ (wBasket k gB β ++ (wPlan k gP π (gR 0) ++ (wRem k gR ρ)))))) C hP hD hS [5, 6, 7, 8, 9, 10, 11, 12, 13] [0, 1, 2, 3, 4, 14, 15, 16, 17, 18, 19, 20, 21] [0, 1, 2, 3, 4, 13, 14, 15, 16, 17, 18, 19, 20, 21, 5, 6, 7, 8, 9, 10, 11, 12] rfl rfl (by decide) (by decide) (fun _ => rfl) (by decide) (runV (As := [.int x1]) (rest := []) C (hP.sub [5, 6, 7, 8, 9, 10, 11, 12, 13] rfl) (hD.sub [5, 6, 7, 8, 9, 10, 11, 12, 13] (by decide) rfl) (m_Uses_offerOf N gU υ x1  _ h H.size) kw_591 kw_592 kw_593 kw_7 kw_594 hd_Uses_offerOf ⟨Nat.le_of_ble_eq_true rfl, Nat.le_of_ble_eq_true rfl⟩ ⟨Nat.le_of_ble_eq_true rfl, Nat.le_of_ble_eq_true rfl⟩ 0 rfl rfl rfl rfl hl.1 (Nat.le_of_ble_eq_true rfl) d_Planner_takeUse_5) (fun r2 u1 H locs h hP hD hS => ?_)
  try dsimp only at h
  refine lv_istore (lv' := [(4, .int r2), (0, .ref (gL 0)), (1, .int x1), (2, .ref (gB 0)), (3, .ref (gP 0))]) hx hb d_Planner_takeUse_8 hl (by decide) rfl (fun ls hl => ?_)
  refine lv_iconst (v := 0) hx hb d_Planner_takeUse_10 (by decide) ?_
  refine lv_istore (lv' := [(5, .int 0), (4, .int r2), (0, .ref (gL 0)), (1, .int x1), (2, .ref (gB 0)), (3, .ref (gP 0))]) hx hb d_Planner_takeUse_11 hl (by decide) rfl (fun ls hl => ?_)
  exact t_Planner_takeUse_13 C N υ β post   N x1 r2 0 κ π ρ _ _ _ hP hD hS (lv_sub hl [2, 3, 4, 5, 1, 0] rfl) h
set_option maxHeartbeats 4000000 in
set_option maxRecDepth 100000 in
theorem t_Planner_fillPlan_111 {p : Program} {l : Launch} {e : Env} {s : State} {m : MethodId} {args : Array Value} {below : List Frame} {meth : Method} {c : Code} {A : Nat → Prop} {D : va_G} {k : Nat → ClassId} {gL : Nat → Nat} {gU : Nat → Nat} {gB : Nat → Nat} {gP : Nat → Nat} {gR : Nat → Nat} (C : Cx p s m args meth c D k "PromotionTill$Planner" b_Planner_fillPlan 7 none A) (N : Nat) (υ : St) (β : St) (post : ((St) × (St) × (Nat → Int64)) → Prop) (K_23 : Int32 → Int32 → (St) → (St) → (Nat → Int64) → Prop) (hK_23 : ∀ (x3 : Int32) (x4 : Int32) (κ : (St)) (π : (St)) (ρ : (Nat → Int64)) (H : Heap) (locs : List Loc) (ls : Array Slot), va_P D CL (wPlanner k gL κ (gU 0) ++ (wUses k gU υ ++ (wBasket k gB β ++ (wPlan k gP π (gR 0) ++ (wRem k gR ρ))))) H → va_D A (wPlanner k gL κ (gU 0) ++ (wUses k gU υ ++ (wBasket k gB β ++ (wPlan k gP π (gR 0) ++ (wRem k gR ρ))))) → va_S A s.heap H locs → lv_has ls 7 [(0, .ref (gL 0)), (1, .ref (gB 0)), (2, .ref (gP 0)), (3, .int x3), (4, .int x4)] → K_23 x3 x4 κ π ρ → W p l e rm_Planner_fillPlan s m args below meth c H locs 0 0 (MQ below (va_Qv post (fun (u : (St) × (St) × (Nat → Int64)) t => va_P D CL (wPlanner k gL u.1 (gU 0) ++ (wUses k gU υ ++ (wBasket k gB β ++ (wPlan k gP u.2.1 (gR 0) ++ (wRem k gR u.2.2))))) t.heap ∧ va_D A (wPlanner k gL u.1 (gU 0) ++ (wUses k gU υ ++ (wBasket k gB β ++ (wPlan k gP u.2.1 (gR 0) ++ (wRem k gR u.2.2)))))) A) args s rm_Planner_fillPlan.cells rm_Planner_fillPlan.slots A) (F0 m 23 ls [])) :
    ∀ (x3 : Int32) (x4 : Int32) (κ : (St)) (π : (St)) (ρ : (Nat → Int64)) (H : Heap) (locs : List Loc) (ls : Array Slot), va_P D CL (wPlanner k gL κ (gU 0) ++ (wUses k gU υ ++ (wBasket k gB β ++ (wPlan k gP π (gR 0) ++ (wRem k gR ρ))))) H → va_D A (wPlanner k gL κ (gU 0) ++ (wUses k gU υ ++ (wBasket k gB β ++ (wPlan k gP π (gR 0) ++ (wRem k gR ρ))))) → va_S A s.heap H locs → lv_has ls 7 [(0, .ref (gL 0)), (1, .ref (gB 0)), (2, .ref (gP 0)), (3, .int x3), (4, .int x4)] → wp_Planner_fillPlan_111 N υ β post K_23 x3 x4 κ π ρ → W p l e rm_Planner_fillPlan s m args below meth c H locs 0 0 (MQ below (va_Qv post (fun (u : (St) × (St) × (Nat → Int64)) t => va_P D CL (wPlanner k gL u.1 (gU 0) ++ (wUses k gU υ ++ (wBasket k gB β ++ (wPlan k gP u.2.1 (gR 0) ++ (wRem k gR u.2.2))))) t.heap ∧ va_D A (wPlanner k gL u.1 (gU 0) ++ (wUses k gU υ ++ (wBasket k gB β ++ (wPlan k gP u.2.1 (gR 0) ++ (wRem k gR u.2.2)))))) A) args s rm_Planner_fillPlan.cells rm_Planner_fillPlan.slots A) (F0 m 111 ls []) := by
  obtain ⟨hx, hb, hr, hlk, hml, hown, hts, hK, hA⟩ := id C
  intro x3 x4 κ π ρ H locs ls hP hD hS hl h
  unfold wp_Planner_fillPlan_111 at h
  refine lv_iinc (v := x4 + 1) (lv' := [(4, .int (x4 + 1)), (0, .ref (gL 0)), (1, .ref (gB 0)), (2, .ref (gP 0)), (3, .int x3)]) hx hb d_Planner_fillPlan_111 hl (k := 4) rfl rfl (by decide) rfl (fun ls hl => ?_)
  refine lv_goto (tgt := 23) hx hb d_Planner_fillPlan_114 (by decide) ?_
  exact hK_23 x3 (x4 + 1) κ π ρ _ _ _ hP hD hS (lv_sub hl [1, 2, 3, 4, 0] rfl) h
set_option maxHeartbeats 4000000 in
set_option maxRecDepth 100000 in
theorem t_Planner_fillPlan_23 {p : Program} {l : Launch} {e : Env} {s : State} {m : MethodId} {args : Array Value} {below : List Frame} {meth : Method} {c : Code} {A : Nat → Prop} {D : va_G} {k : Nat → ClassId} {gL : Nat → Nat} {gU : Nat → Nat} {gB : Nat → Nat} {gP : Nat → Nat} {gR : Nat → Nat} (C : Cx p s m args meth c D k "PromotionTill$Planner" b_Planner_fillPlan 7 none A) (N : Nat) (υ : St) (β : St) (post : ((St) × (St) × (Nat → Int64)) → Prop) :
    ∀ (n : Nat) (x3 : Int32) (x4 : Int32) (κ : (St)) (π : (St)) (ρ : (Nat → Int64)) (H : Heap) (locs : List Loc) (ls : Array Slot), va_P D CL (wPlanner k gL κ (gU 0) ++ (wUses k gU υ ++ (wBasket k gB β ++ (wPlan k gP π (gR 0) ++ (wRem k gR ρ))))) H → va_D A (wPlanner k gL κ (gU 0) ++ (wUses k gU υ ++ (wBasket k gB β ++ (wPlan k gP π (gR 0) ++ (wRem k gR ρ))))) → va_S A s.heap H locs → lv_has ls 7 [(0, .ref (gL 0)), (1, .ref (gB 0)), (2, .ref (gP 0)), (3, .int x3), (4, .int x4)] → wp_Planner_fillPlan_23 N υ β post n x3 x4 κ π ρ → W p l e rm_Planner_fillPlan s m args below meth c H locs 0 0 (MQ below (va_Qv post (fun (u : (St) × (St) × (Nat → Int64)) t => va_P D CL (wPlanner k gL u.1 (gU 0) ++ (wUses k gU υ ++ (wBasket k gB β ++ (wPlan k gP u.2.1 (gR 0) ++ (wRem k gR u.2.2))))) t.heap ∧ va_D A (wPlanner k gL u.1 (gU 0) ++ (wUses k gU υ ++ (wBasket k gB β ++ (wPlan k gP u.2.1 (gR 0) ++ (wRem k gR u.2.2)))))) A) args s rm_Planner_fillPlan.cells rm_Planner_fillPlan.slots A) (F0 m 23 ls []) := by
  obtain ⟨hx, hb, hr, hlk, hml, hown, hts, hK, hA⟩ := id C
  intro n
  induction n with
  | zero =>
    intro x3 x4 κ π ρ H locs ls hP hD hS hl h
    exact absurd h (by simp [wp_Planner_fillPlan_23])
  | succ n ih =>
    intro x3 x4 κ π ρ H locs ls hP hD hS hl h
    rw [wp_Planner_fillPlan_23] at h
    refine lv_iload hx hb d_Planner_fillPlan_23 (lv_at hl 4 rfl) ?_
    refine lv_aload_n hx hb d_Planner_fillPlan_25 rfl (lv_at hl 1 rfl) ?_
    refine va_get (D := D) (ci := 0) (v := .int (β 1 0)) (C := R_Basket) (T := F_Basket) (N := 2) hx hb hts in_Basket hown hK hP 14 rfl rfl 1 (by decide) (hts _ kw_108) (fun _ h9 => h9) rfl d_Planner_fillPlan_26 ?_
    refine lv_icmp_ge (tgt := 117) hx hb d_Planner_fillPlan_29 (by decide) (fun c2 => ?_) (fun c2 => ?_)
    · replace h := h.1 c2
      exact ret_v (u := (κ, π, ρ)) (wf := (fun u : (St) × (St) × (Nat → Int64) => wPlanner k gL u.1 (gU 0) ++ (wUses k gU υ ++ (wBasket k gB β ++ (wPlan k gP u.2.1 (gR 0) ++ (wRem k gR u.2.2)))))) C hP hD hS (Nat.zero_le _) (Nat.zero_le _) h d_Planner_fillPlan_117
    · replace h := h.2 c2
      refine lv_aload_n hx hb d_Planner_fillPlan_32 rfl (lv_at hl 0 rfl) ?_
      refine call_i (wr := [(gB 0, .inr (0, [.ref (gB 1), .int (β 1 0)])), (gB 1, .inl (k 0, 10, .inl (β 0))), (gP 0, .inr (2, [.ref (gP 1), .ref (gP 2), .ref (gP 3), .int (π 3 0), .ref (gP 4), .ref (gR 0)])), (gP 1, .inl (k 0, 10, .inl (π 0))), (gP 2, .inl (k 0, 10, .inl (π 1))), (gP 3, .inl (k 0, 10, .inl (π 2))), (gP 4, .inl (k 1, 10, .inl (π 4))), (gR 0, .inl (k 2, 10, .inr (.inl ρ)))]) (wn := (fun u3 : Unit => wPlanner k gL κ (gU 0) ++ (wUses k gU υ ++ (wBasket k gB β ++ (wPlan k gP π (gR 0) ++ (wRem k gR ρ)))))) C hP hD hS [0, 1, 2, 3, 4, 5, 6, 7, 8, 9, 10, 11, 12, 13] [14, 15, 16, 17, 18, 19, 20, 21] [8, 9, 10, 11, 12, 13, 14, 15, 16, 17, 18, 19, 20, 21, 0, 1, 2, 3, 4, 5, 6, 7] rfl rfl (by decide) (by decide) (fun _ => rfl) (by decide) (runV (As := []) (rest := []) C (hP.sub [0, 1, 2, 3, 4, 5, 6, 7, 8, 9, 10, 11, 12, 13] rfl) (hD.sub [0, 1, 2, 3, 4, 5, 6, 7, 8, 9, 10, 11, 12, 13] (by decide) rfl) (m_Planner_leastLeft N gL gU κ υ   _ h H.size) kw_559 kw_561 kp_11 kw_6 kw_562 hd_Planner_leastLeft ⟨Nat.le_of_ble_eq_true rfl, Nat.le_of_ble_eq_true rfl⟩ ⟨Nat.le_of_ble_eq_true rfl, Nat.le_of_ble_eq_true rfl⟩ 0 rfl rfl rfl rfl hl.1 (Nat.le_of_ble_eq_true rfl) d_Planner_fillPlan_33) (fun r4 u3 H locs h hP hD hS => ?_)
      try dsimp only at h
      refine lv_istore (lv' := [(5, .int r4), (0, .ref (gL 0)), (1, .ref (gB 0)), (2, .ref (gP 0)), (3, .int x3), (4, .int x4)]) hx hb d_Planner_fillPlan_36 hl (by decide) rfl (fun ls hl => ?_)
      refine lv_iload hx hb d_Planner_fillPlan_38 (lv_at hl 0 rfl) ?_
      refine lv_iconst (v := (-1)) hx hb d_Planner_fillPlan_40 (by decide) ?_
      refine lv_icmp_ne (tgt := 45) hx hb d_Planner_fillPlan_41 (by decide) (fun c5 => ?_) (fun c5 => ?_)
      · replace h := h.1 c5
        refine lv_aload_n hx hb d_Planner_fillPlan_45 rfl (lv_at hl 1 rfl) ?_
        refine lv_iload_n hx hb d_Planner_fillPlan_46 rfl (lv_at hl 4 rfl) ?_
        refine lv_iload hx hb d_Planner_fillPlan_47 (lv_at hl 0 rfl) ?_
        refine call_i (wr := [(gB 0, .inr (0, [.ref (gB 1), .int (β 1 0)])), (gB 1, .inl (k 0, 10, .inl (β 0))), (gP 0, .inr (2, [.ref (gP 1), .ref (gP 2), .ref (gP 3), .int (π 3 0), .ref (gP 4), .ref (gR 0)])), (gP 1, .inl (k 0, 10, .inl (π 0))), (gP 2, .inl (k 0, 10, .inl (π 1))), (gP 3, .inl (k 0, 10, .inl (π 2))), (gP 4, .inl (k 1, 10, .inl (π 4))), (gR 0, .inl (k 2, 10, .inr (.inl ρ)))]) (wn := (fun u6 : Unit => wPlanner k gL κ (gU 0) ++ (wUses k gU υ ++ (wBasket k gB β ++ (wPlan k gP π (gR 0) ++ (wRem k gR ρ)))))) C hP hD hS [0, 1, 2, 3, 4, 5, 6, 7, 8, 9, 10, 11, 12, 13] [14, 15, 16, 17, 18, 19, 20, 21] [8, 9, 10, 11, 12, 13, 14, 15, 16, 17, 18, 19, 20, 21, 0, 1, 2, 3, 4, 5, 6, 7] rfl rfl (by decide) (by decide) (fun _ => rfl) (by decide) (runV (As := [.int x3, .int r4]) (rest := []) C (hP.sub [0, 1, 2, 3, 4, 5, 6, 7, 8, 9, 10, 11, 12, 13] rfl) (hD.sub [0, 1, 2, 3, 4, 5, 6, 7, 8, 9, 10, 11, 12, 13] (by decide) rfl) (m_Planner_firstBestUse N gL gU κ υ x3 r4  _ h H.size) kw_618 kw_620 kp_16 kw_6 kw_621 hd_Planner_firstBestUse ⟨Nat.le_of_ble_eq_true rfl, Nat.le_of_ble_eq_true rfl⟩ ⟨Nat.le_of_ble_eq_true rfl, Nat.le_of_ble_eq_true rfl⟩ 0 rfl rfl rfl rfl hl.1 (Nat.le_of_ble_eq_true rfl) d_Planner_fillPlan_49) (fun r7 u6 H locs h hP hD hS => ?_)
        try dsimp only at h
        refine lv_istore (lv' := [(6, .int r7), (5, .int r4), (0, .ref (gL 0)), (1, .ref (gB 0)), (2, .ref (gP 0)), (3, .int x3), (4, .int x4)]) hx hb d_Planner_fillPlan_52 hl (by decide) rfl (fun ls hl => ?_)
        refine lv_iload hx hb d_Planner_fillPlan_54 (lv_at hl 0 rfl) ?_
        refine lv_iconst (v := (-1)) hx hb d_Planner_fillPlan_56 (by decide) ?_
        refine lv_icmp_ne (tgt := 91) hx hb d_Planner_fillPlan_57 (by decide) (fun c8 => ?_) (fun c8 => ?_)
        · replace h := h.1 c8
          refine lv_aload_n hx hb d_Planner_fillPlan_91 rfl (lv_at hl 2 rfl) ?_
          refine lv_iload hx hb d_Planner_fillPlan_92 (lv_at hl 0 rfl) ?_
          refine lv_aload_n hx hb d_Planner_fillPlan_94 rfl (lv_at hl 3 rfl) ?_
          refine lv_aload_n hx hb d_Planner_fillPlan_95 rfl (lv_at hl 4 rfl) ?_
          refine same_v C hP hD hS (runV (As := [.int r7, .ref (gB 0), .ref (gP 0)]) (rest := []) C hP hD (m_Planner_takeUse N gL gU gB gP gR κ υ β π ρ r7  _ h H.size) kw_630 kw_632 kp_18 kw_6 kw_633 hd_Planner_takeUse ⟨Nat.le_of_ble_eq_true rfl, Nat.le_of_ble_eq_true rfl⟩ ⟨Nat.le_of_ble_eq_true rfl, Nat.le_of_ble_eq_true rfl⟩ 0 rfl rfl rfl rfl hl.1 (Nat.le_of_ble_eq_true rfl) d_Planner_fillPlan_96) (fun u9 H locs h hP hD hS => ?_)
          replace hP : va_P D CL (wPlanner k gL u9.1 (gU 0) ++ (wUses k gU υ ++ (wBasket k gB β ++ (wPlan k gP u9.2.1 (gR 0) ++ (wRem k gR u9.2.2))))) H := hP
          replace hD : va_D A (wPlanner k gL u9.1 (gU 0) ++ (wUses k gU υ ++ (wBasket k gB β ++ (wPlan k gP u9.2.1 (gR 0) ++ (wRem k gR u9.2.2))))) := hD
          try dsimp only at h
          refine lv_iload_n hx hb d_Planner_fillPlan_99 rfl (lv_at hl 5 rfl) ?_
          refine lv_aload_n hx hb d_Planner_fillPlan_100 rfl (lv_at hl 2 rfl) ?_
          refine va_get (D := D) (ci := 3) (v := .ref (gU 0)) (C := R_Planner) (T := F_Planner) (N := 6) hx hb hts in_Planner hown hK hP 0 rfl rfl 4 (by decide) (hts _ kw_162) (fun _ h9 => h9) rfl d_Planner_fillPlan_101 ?_
          refine lv_iload hx hb d_Planner_fillPlan_104 (lv_at hl 0 rfl) ?_
          refine call_i (wr := [(gL 0, .inr (3, [.ref (gL 1), .ref (gL 2), .ref (gL 3), .ref (gL 4), .ref (gU 0), .int (u9.1 5 0)])), (gL 1, .inl (k 0, 18, .inl (u9.1 0))), (gL 2, .inl (k 0, 18, .inl (u9.1 1))), (gL 3, .inl (k 0, 18, .inl (u9.1 2))), (gL 4, .inl (k 0, 3000, .inl (u9.1 3))), (gB 0, .inr (0, [.ref (gB 1), .int (β 1 0)])), (gB 1, .inl (k 0, 10, .inl (β 0))), (gP 0, .inr (2, [.ref (gP 1), .ref (gP 2), .ref (gP 3), .int (u9.2.1 3 0), .ref (gP 4), .ref (gR 0)])), (gP 1, .inl (k 0, 10, .inl (u9.2.1 0))), (gP 2, .inl (k 0, 10, .inl (u9.2.1 1))), (gP 3, .inl (k 0, 10, .inl (u9.2.1 2))), (gP 4, .inl (k 1, 10, .inl (u9.2.1 4))), (gR 0, .inl (k 2, 10, .inr (.inl u9.2.2)))]) (wn := (fun u11 : Unit => wPlanner k gL u9.1 (gU 0) ++ (wUses k gU υ ++ (wBasket k gB β ++ (wPlan k gP u9.2.1 (gR 0) ++ (wRem k gR u9.2.2)))))) C hP hD hS [5, 6, 7, 8, 9, 10, 11, 12, 13] [0, 1, 2, 3, 4, 14, 15, 16, 17, 18, 19, 20, 21] [0, 1, 2, 3, 4, 13, 14, 15, 16, 17, 18, 19, 20, 21, 5, 6, 7, 8, 9, 10, 11, 12] rfl rfl (by decide) (by decide) (fun _ => rfl) (by decide) (runV (As := [.int r7]) (rest := [.int x3]) C (hP.sub [5, 6, 7, 8, 9, 10, 11, 12, 13] rfl) (hD.sub [5, 6, 7, 8, 9, 10, 11, 12, 13] (by decide) rfl) (m_Uses_stepOf N gU υ r7  _ h H.size) kw_583 kw_584 kw_585 kw_7 kw_586 hd_Uses_stepOf ⟨Nat.le_of_ble_eq_true rfl, Nat.le_of_ble_eq_true rfl⟩ ⟨Nat.le_of_ble_eq_true rfl, Nat.le_of_ble_eq_true rfl⟩ 0 rfl rfl rfl rfl hl.1 (Nat.le_of_ble_eq_true rfl) d_Planner_fillPlan_106) (fun r12 u11 H locs h hP hD hS => ?_)
          try dsimp only at h
          refine lv_isub hx hb d_Planner_fillPlan_109 ?_
          refine lv_istore_n (lv' := [(3, .int (x3 - r12)), (6, .int r7), (5, .int r4), (0, .ref (gL 0)), (1, .ref (gB 0)), (2, .ref (gP 0)), (4, .int x4)]) hx hb d_Planner_fillPlan_110 rfl hl (by decide) rfl (fun ls hl => ?_)
          exact t_Planner_fillPlan_111 C N υ β post (wp_Planner_fillPlan_23 N υ β post n) ih (x3 - r12) x4 u9.1 u9.2.1 u9.2.2 _ _ _ hP hD hS (lv_sub hl [3, 4, 5, 0, 6] rfl) h
        · replace h := h.2 c8
          refine lv_aload_n hx hb d_Planner_fillPlan_60 rfl (lv_at hl 4 rfl) ?_
          refine lv_aload_n hx hb d_Planner_fillPlan_61 rfl (lv_at hl 3 rfl) ?_
          refine lv_iload hx hb d_Planner_fillPlan_62 (lv_at hl 1 rfl) ?_
          refine call_v (wr := [(gL 0, .inr (3, [.ref (gL 1), .ref (gL 2), .ref (gL 3), .ref (gL 4), .ref (gU 0), .int (κ 5 0)])), (gL 1, .inl (k 0, 18, .inl (κ 0))), (gL 2, .inl (k 0, 18, .inl (κ 1))), (gL 3, .inl (k 0, 18, .inl (κ 2))), (gL 4, .inl (k 0, 3000, .inl (κ 3))), (gU 0, .inr (6, [.ref (gU 1), .ref (gU 2), .ref (gU 3), .ref (gU 4), .ref (gU 5), .ref (gU 6), .ref (gU 7), .ref (gU 8), .int (υ 8 0), .int (υ 9 0)])), (gU 1, .inl (k 0, 1260, .inl (υ 0))), (gU 2, .inl (k 0, 1260, .inl (υ 1))), (gU 3, .inl (k 0, 1260, .inl (υ 2))), (gU 4, .inl (k 0, 1260, .inl (υ 3))), (gU 5, .inl (k 0, 12, .inl (υ 4))), (gU 6, .inl (k 0, 12, .inl (υ 5))), (gU 7, .inl (k 0, 12, .inl (υ 6))), (gU 8, .inl (k 0, 1024, .inl (υ 7)))]) (wn := (fun u13 : (St) => wPlanner k gL κ (gU 0) ++ (wUses k gU υ ++ (wBasket k gB β ++ (wPlan k gP u13 (gR 0) ++ (wRem k gR ρ)))))) C hP hD hS [16, 17, 18, 19, 20, 21, 14, 15] [0, 1, 2, 3, 4, 5, 6, 7, 8, 9, 10, 11, 12, 13] [0, 1, 2, 3, 4, 5, 6, 7, 8, 9, 10, 11, 12, 13, 20, 21, 14, 15, 16, 17, 18, 19] rfl rfl (by decide) (by decide) (fun _ => rfl) (by decide) (runV (As := [.ref (gB 0), .int r4]) (rest := []) C (hP.sub [16, 17, 18, 19, 20, 21, 14, 15] rfl) (hD.sub [16, 17, 18, 19, 20, 21, 14, 15] (by decide) rfl) (m_Plan_takeAlone N gP gR gB π ρ β r4  _ h H.size) kw_622 kw_623 kw_624 kw_8 kw_625 hd_Plan_takeAlone ⟨Nat.le_of_ble_eq_true rfl, Nat.le_of_ble_eq_true rfl⟩ ⟨Nat.le_of_ble_eq_true rfl, Nat.le_of_ble_eq_true rfl⟩ 0 rfl rfl rfl rfl hl.1 (Nat.le_of_ble_eq_true rfl) d_Planner_fillPlan_64) (fun u13 H locs h hP hD hS => ?_)
          try dsimp only at h
          refine lv_aload_n hx hb d_Planner_fillPlan_67 rfl (lv_at hl 2 rfl) ?_
          refine va_get (D := D) (ci := 3) (v := .ref (gL 3)) (C := R_Planner) (T := F_Planner) (N := 6) hx hb hts in_Planner hown hK hP 0 rfl rfl 2 (by decide) (hts _ kw_160) (fun _ h9 => h9) rfl d_Planner_fillPlan_68 ?_
          refine lv_iload hx hb d_Planner_fillPlan_71 (lv_at hl 1 rfl) ?_
          refine lv_dup2_11 hx hb d_Planner_fillPlan_73 rfl rfl ?_
          obtain ⟨hi15, h⟩ := h
          refine va_iald hx hb hK hP 3 0 rfl rfl hi15 d_Planner_fillPlan_74 ?_
          refine lv_iconst (v := 1) hx hb d_Planner_fillPlan_75 (by decide) ?_
          refine lv_isub hx hb d_Planner_fillPlan_76 ?_
          obtain ⟨hi16, h⟩ := h
          refine va_iast hx hb hK hP hD hS 3 0 rfl rfl hi16 d_Planner_fillPlan_77 (fun H locs hP hD hS => ?_)
          obtain ⟨κ17, eκ17⟩ : ∃ z, z = s2 κ 2 (Int32.toNatClampNeg r4) ((κ 2 (Int32.toNatClampNeg r4)) - 1) := ⟨_, rfl⟩
          replace hP : va_P D CL (wPlanner k gL κ17 (gU 0) ++ (wUses k gU υ ++ (wBasket k gB β ++ (wPlan k gP u13 (gR 0) ++ (wRem k gR ρ))))) H := by rw [eκ17]; exact hP
          replace hD : va_D A (wPlanner k gL κ17 (gU 0) ++ (wUses k gU υ ++ (wBasket k gB β ++ (wPlan k gP u13 (gR 0) ++ (wRem k gR ρ))))) := by rw [eκ17]; exact hD
          replace h := h κ17 eκ17
          refine lv_iload_n hx hb d_Planner_fillPlan_78 rfl (lv_at hl 5 rfl) ?_
          refine lv_aload_n hx hb d_Planner_fillPlan_79 rfl (lv_at hl 2 rfl) ?_
          refine va_get (D := D) (ci := 3) (v := .ref (gL 2)) (C := R_Planner) (T := F_Planner) (N := 6) hx hb hts in_Planner hown hK hP 0 rfl rfl 1 (by decide) (hts _ kw_159) (fun _ h9 => h9) rfl d_Planner_fillPlan_80 ?_
          refine lv_iload hx hb d_Planner_fillPlan_83 (lv_at hl 1 rfl) ?_
          obtain ⟨hi18, h⟩ := h
          refine va_iald hx hb hK hP 2 0 rfl rfl hi18 d_Planner_fillPlan_85 ?_
          refine lv_isub hx hb d_Planner_fillPlan_86 ?_
          refine lv_istore_n (lv' := [(3, .int (x3 - (κ17 1 (Int32.toNatClampNeg r4)))), (6, .int r7), (5, .int r4), (0, .ref (gL 0)), (1, .ref (gB 0)), (2, .ref (gP 0)), (4, .int x4)]) hx hb d_Planner_fillPlan_87 rfl hl (by decide) rfl (fun ls hl => ?_)
          refine lv_goto (tgt := 111) hx hb d_Planner_fillPlan_88 (by decide) ?_
          exact t_Planner_fillPlan_111 C N υ β post (wp_Planner_fillPlan_23 N υ β post n) ih (x3 - (κ17 1 (Int32.toNatClampNeg r4))) x4 κ17 u13 ρ _ _ _ hP hD hS (lv_sub hl [3, 4, 5, 0, 6] rfl) h
      · replace h := h.2 c5
        exact ret_v (u := (κ, π, ρ)) (wf := (fun u : (St) × (St) × (Nat → Int64) => wPlanner k gL u.1 (gU 0) ++ (wUses k gU υ ++ (wBasket k gB β ++ (wPlan k gP u.2.1 (gR 0) ++ (wRem k gR u.2.2)))))) C hP hD hS (Nat.zero_le _) (Nat.zero_le _) h d_Planner_fillPlan_44
set_option maxHeartbeats 4000000 in
set_option maxRecDepth 100000 in
theorem m_Planner_fillPlan {l : Launch} {D : va_G} {k : Nat → ClassId} (N : Nat) (gL : Nat → Nat) (gU : Nat → Nat) (gB : Nat → Nat) (gP : Nat → Nat) (gR : Nat → Nat) (κ : St) (υ : St) (β : St) (π : St) (ρ : Nat → Int64) (post : ((St) × (St) × (Nat → Int64)) → Prop) (h : wp_Planner_fillPlan N  κ υ β π ρ  post) : Cv l D k y_Planner_fillPlan b_Planner_fillPlan 7 rm_Planner_fillPlan [.ref (gL 0), .ref (gB 0), .ref (gP 0)] (wPlanner k gL κ (gU 0) ++ (wUses k gU υ ++ (wBasket k gB β ++ (wPlan k gP π (gR 0) ++ (wRem k gR ρ))))) (fun u : (St) × (St) × (Nat → Int64) => wPlanner k gL u.1 (gU 0) ++ (wUses k gU υ ++ (wBasket k gB β ++ (wPlan k gP u.2.1 (gR 0) ++ (wRem k gR u.2.2))))) post := by
  refine Cv.of (by decide) (Nat.le_of_ble_eq_true rfl) ?_
  intro p e s m below meth c A H locs ls C hP hD hS hl
  obtain ⟨hx, hb, hr, hlk, hml, hown, hts, hK, hA⟩ := id C
  replace hl : lv_has ls 7 [(0, .ref (gL 0)), (1, .ref (gB 0)), (2, .ref (gP 0))] := hl
  unfold wp_Planner_fillPlan at h
  refine lv_aload_n hx hb d_Planner_fillPlan_0 rfl (lv_at hl 0 rfl) ?_
  refine va_get (D := D) (ci := 3) (v := .int (κ 5 0)) (C := R_Planner) (T := F_Planner) (N := 6) hx hb hts in_Planner hown hK hP 0 rfl rfl 5 (by decide) (hts _ kw_163) (fun _ h9 => h9) rfl d_Planner_fillPlan_1 ?_
  refine lv_istore_n (lv' := [(3, .int (κ 5 0)), (0, .ref (gL 0)), (1, .ref (gB 0)), (2, .ref (gP 0))]) hx hb d_Planner_fillPlan_4 rfl hl (by decide) rfl (fun ls hl => ?_)
  refine lv_aload_n hx hb d_Planner_fillPlan_5 rfl (lv_at hl 1 rfl) ?_
  refine va_get (D := D) (ci := 3) (v := .ref (gL 1)) (C := R_Planner) (T := F_Planner) (N := 6) hx hb hts in_Planner hown hK hP 0 rfl rfl 0 (by decide) (hts _ kw_158) (fun _ h9 => h9) rfl d_Planner_fillPlan_6 ?_
  refine lv_iconst (v := 0) hx hb d_Planner_fillPlan_9 (by decide) ?_
  refine lv_aload_n hx hb d_Planner_fillPlan_10 rfl (lv_at hl 1 rfl) ?_
  refine va_get (D := D) (ci := 3) (v := .ref (gL 3)) (C := R_Planner) (T := F_Planner) (N := 6) hx hb hts in_Planner hown hK hP 0 rfl rfl 2 (by decide) (hts _ kw_160) (fun _ h9 => h9) rfl d_Planner_fillPlan_11 ?_
  refine lv_iconst (v := 0) hx hb d_Planner_fillPlan_14 (by decide) ?_
  refine lv_bipush (v := 18) hx hb d_Planner_fillPlan_15 (by decide) ?_
  refine va_copyi hx hb (by rw [hml]; exact hl.1.symm) hown (hts _ kw_615) (hts _ kw_617) (hts _ kw_616) (hts _ kw_21) hK hP hD hS 1 3 0 0 rfl rfl rfl rfl rfl (by decide) (by decide) (by decide) (by decide) (by decide) (fun _ _ => rfl) (Nat.le_of_ble_eq_true rfl) (Nat.le_of_ble_eq_true rfl) d_Planner_fillPlan_17 (fun H locs hP hD hS => ?_)
  obtain ⟨κ1, eκ1⟩ : ∃ z, z = va_up κ 2 (va_cpy (κ 0) (κ 2) (Int32.toNatClampNeg 0) (Int32.toNatClampNeg 0) (Int32.toNatClampNeg 18)) := ⟨_, rfl⟩
  replace hP : va_P D CL (wPlanner k gL κ1 (gU 0) ++ (wUses k gU υ ++ (wBasket k gB β ++ (wPlan k gP π (gR 0) ++ (wRem k gR ρ))))) H := by rw [eκ1]; exact hP
  replace hD : va_D A (wPlanner k gL κ1 (gU 0) ++ (wUses k gU υ ++ (wBasket k gB β ++ (wPlan k gP π (gR 0) ++ (wRem k gR ρ))))) := by rw [eκ1]; exact hD
  replace h := h κ1 eκ1
  refine lv_iconst (v := 0) hx hb d_Planner_fillPlan_20 (by decide) ?_
  refine lv_istore (lv' := [(4, .int 0), (3, .int (κ 5 0)), (0, .ref (gL 0)), (1, .ref (gB 0)), (2, .ref (gP 0))]) hx hb d_Planner_fillPlan_21 hl (by decide) rfl (fun ls hl => ?_)
  exact t_Planner_fillPlan_23 C N υ β post   N (κ 5 0) 0 κ1 π ρ _ _ _ hP hD hS (lv_sub hl [2, 3, 4, 1, 0] rfl) h
set_option maxHeartbeats 4000000 in
set_option maxRecDepth 100000 in
theorem t_Rec_keptCount_27 {p : Program} {l : Launch} {e : Env} {s : State} {m : MethodId} {args : Array Value} {below : List Frame} {meth : Method} {c : Code} {A : Nat → Prop} {D : va_G} {k : Nat → ClassId} {gC : Nat → Nat} {gB2 : Nat → Nat} {xt : Nat} (C : Cx p s m args meth c D k "PromotionTill$Receipt" b_Rec_keptCount 3 (some .int) A) (N : Nat) (χ : St) (β2 : St) (post : Int32 → (Unit) → Prop) (K_4 : Int32 → Int32 → Prop) (hK_4 : ∀ (x1 : Int32) (x2 : Int32) (H : Heap) (locs : List Loc) (ls : Array Slot), va_P D CL (wRec k gC χ xt (gB2 0) ++ (wBasket k gB2 β2)) H → va_D A (wRec k gC χ xt (gB2 0) ++ (wBasket k gB2 β2)) → va_S A s.heap H locs → lv_has ls 3 [(0, .ref (gC 0)), (1, .int x1), (2, .int x2)] → K_4 x1 x2 → W p l e rm_Rec_keptCount s m args below meth c H locs 0 0 (MQ below (va_Qi post (fun (u : Unit) t => va_P D CL (wRec k gC χ xt (gB2 0) ++ (wBasket k gB2 β2)) t.heap ∧ va_D A (wRec k gC χ xt (gB2 0) ++ (wBasket k gB2 β2))) A) args s rm_Rec_keptCount.cells rm_Rec_keptCount.slots A) (F0 m 4 ls [])) :
    ∀ (x1 : Int32) (x2 : Int32) (H : Heap) (locs : List Loc) (ls : Array Slot), va_P D CL (wRec k gC χ xt (gB2 0) ++ (wBasket k gB2 β2)) H → va_D A (wRec k gC χ xt (gB2 0) ++ (wBasket k gB2 β2)) → va_S A s.heap H locs → lv_has ls 3 [(0, .ref (gC 0)), (1, .int x1), (2, .int x2)] → wp_Rec_keptCount_27 N χ β2 post K_4 x1 x2 → W p l e rm_Rec_keptCount s m args below meth c H locs 0 0 (MQ below (va_Qi post (fun (u : Unit) t => va_P D CL (wRec k gC χ xt (gB2 0) ++ (wBasket k gB2 β2)) t.heap ∧ va_D A (wRec k gC χ xt (gB2 0) ++ (wBasket k gB2 β2))) A) args s rm_Rec_keptCount.cells rm_Rec_keptCount.slots A) (F0 m 27 ls []) := by
  obtain ⟨hx, hb, hr, hlk, hml, hown, hts, hK, hA⟩ := id C
  intro x1 x2 H locs ls hP hD hS hl h
  unfold wp_Rec_keptCount_27 at h
  refine lv_iinc (v := x2 + 1) (lv' := [(2, .int (x2 + 1)), (0, .ref (gC 0)), (1, .int x1)]) hx hb d_Rec_keptCount_27 hl (k := 2) rfl rfl (by decide) rfl (fun ls hl => ?_)
  refine lv_goto (tgt := 4) hx hb d_Rec_keptCount_30 (by decide) ?_
  exact hK_4 x1 (x2 + 1) _ _ _ hP hD hS (lv_sub hl [1, 2, 0] rfl) h
set_option maxHeartbeats 4000000 in
set_option maxRecDepth 100000 in
theorem t_Rec_keptCount_4 {p : Program} {l : Launch} {e : Env} {s : State} {m : MethodId} {args : Array Value} {below : List Frame} {meth : Method} {c : Code} {A : Nat → Prop} {D : va_G} {k : Nat → ClassId} {gC : Nat → Nat} {gB2 : Nat → Nat} {xt : Nat} (C : Cx p s m args meth c D k "PromotionTill$Receipt" b_Rec_keptCount 3 (some .int) A) (N : Nat) (χ : St) (β2 : St) (post : Int32 → (Unit) → Prop) :
    ∀ (n : Nat) (x1 : Int32) (x2 : Int32) (H : Heap) (locs : List Loc) (ls : Array Slot), va_P D CL (wRec k gC χ xt (gB2 0) ++ (wBasket k gB2 β2)) H → va_D A (wRec k gC χ xt (gB2 0) ++ (wBasket k gB2 β2)) → va_S A s.heap H locs → lv_has ls 3 [(0, .ref (gC 0)), (1, .int x1), (2, .int x2)] → wp_Rec_keptCount_4 N χ β2 post n x1 x2 → W p l e rm_Rec_keptCount s m args below meth c H locs 0 0 (MQ below (va_Qi post (fun (u : Unit) t => va_P D CL (wRec k gC χ xt (gB2 0) ++ (wBasket k gB2 β2)) t.heap ∧ va_D A (wRec k gC χ xt (gB2 0) ++ (wBasket k gB2 β2))) A) args s rm_Rec_keptCount.cells rm_Rec_keptCount.slots A) (F0 m 4 ls []) := by
  obtain ⟨hx, hb, hr, hlk, hml, hown, hts, hK, hA⟩ := id C
  intro n
  induction n with
  | zero =>
    intro x1 x2 H locs ls hP hD hS hl h
    exact absurd h (by simp [wp_Rec_keptCount_4])
  | succ n ih =>
    intro x1 x2 H locs ls hP hD hS hl h
    rw [wp_Rec_keptCount_4] at h
    refine lv_iload_n hx hb d_Rec_keptCount_4 rfl (lv_at hl 2 rfl) ?_
    refine lv_aload_n hx hb d_Rec_keptCount_5 rfl (lv_at hl 0 rfl) ?_
    refine va_get (D := D) (ci := 4) (v := .ref (gB2 0)) (C := R_Rec) (T := F_Rec) (N := 7) hx hb hts in_Rec hown hK hP 0 rfl rfl 1 (by decide) (hts _ kw_719) (fun _ h9 => h9) rfl d_Rec_keptCount_6 ?_
    refine va_get (D := D) (ci := 0) (v := .int (β2 1 0)) (C := R_Basket) (T := F_Basket) (N := 2) hx hb hts in_Basket hown hK hP 4 rfl rfl 1 (by decide) (hts _ kw_105) (fun _ h9 => h9) rfl d_Rec_keptCount_9 ?_
    refine lv_icmp_ge (tgt := 33) hx hb d_Rec_keptCount_12 (by decide) (fun c1 => ?_) (fun c1 => ?_)
    · replace h := h.1 c1
      refine lv_iload_n hx hb d_Rec_keptCount_33 rfl (lv_at hl 1 rfl) ?_
      exact ret_i (u := ()) (wf := (fun u : Unit => wRec k gC χ xt (gB2 0) ++ (wBasket k gB2 β2))) C hP hD hS (Nat.zero_le _) (Nat.zero_le _) h d_Rec_keptCount_34
    · replace h := h.2 c1
      refine lv_aload_n hx hb d_Rec_keptCount_15 rfl (lv_at hl 0 rfl) ?_
      refine va_get (D := D) (ci := 4) (v := .ref (gC 3)) (C := R_Rec) (T := F_Rec) (N := 7) hx hb hts in_Rec hown hK hP 0 rfl rfl 4 (by decide) (hts _ kw_725) (fun _ h9 => h9) rfl d_Rec_keptCount_16 ?_
      refine lv_iload_n hx hb d_Rec_keptCount_19 rfl (lv_at hl 2 rfl) ?_
      obtain ⟨hi2, h⟩ := h
      refine va_zald hx hb hK hP 3 1 rfl rfl hi2 d_Rec_keptCount_20 ?_
      refine lv_if_eq (tgt := 27) hx hb d_Rec_keptCount_21 (by decide) (fun c3 => ?_) (fun c3 => ?_)
      · replace h := h.1 c3
        exact t_Rec_keptCount_27 C N χ β2 post (wp_Rec_keptCount_4 N χ β2 post n) ih x1 x2 _ _ _ hP hD hS (lv_sub hl [0, 1, 2] rfl) h
      · replace h := h.2 c3
        refine lv_iinc (v := x1 + 1) (lv' := [(1, .int (x1 + 1)), (0, .ref (gC 0)), (2, .int x2)]) hx hb d_Rec_keptCount_24 hl (k := 1) rfl rfl (by decide) rfl (fun ls hl => ?_)
        exact t_Rec_keptCount_27 C N χ β2 post (wp_Rec_keptCount_4 N χ β2 post n) ih (x1 + 1) x2 _ _ _ hP hD hS (lv_sub hl [1, 0, 2] rfl) h
set_option maxHeartbeats 4000000 in
set_option maxRecDepth 100000 in
theorem m_Rec_keptCount {l : Launch} {D : va_G} {k : Nat → ClassId} (N : Nat) (gC : Nat → Nat) (gB2 : Nat → Nat) (xt : Nat) (χ : St) (β2 : St) (post : Int32 → (Unit) → Prop) (h : wp_Rec_keptCount N  χ β2  post) : Ci l D k y_Rec_keptCount b_Rec_keptCount 3 .int rm_Rec_keptCount [.ref (gC 0)] (wRec k gC χ xt (gB2 0) ++ (wBasket k gB2 β2)) (fun u : Unit => wRec k gC χ xt (gB2 0) ++ (wBasket k gB2 β2)) post := by
  refine Ci.of (by decide) (Nat.le_of_ble_eq_true rfl) ?_
  intro p e s m below meth c A H locs ls C hP hD hS hl
  obtain ⟨hx, hb, hr, hlk, hml, hown, hts, hK, hA⟩ := id C
  replace hl : lv_has ls 3 [(0, .ref (gC 0))] := hl
  unfold wp_Rec_keptCount at h
  refine lv_iconst (v := 0) hx hb d_Rec_keptCount_0 (by decide) ?_
  refine lv_istore_n (lv' := [(1, .int 0), (0, .ref (gC 0))]) hx hb d_Rec_keptCount_1 rfl hl (by decide) rfl (fun ls hl => ?_)
  refine lv_iconst (v := 0) hx hb d_Rec_keptCount_2 (by decide) ?_
  refine lv_istore_n (lv' := [(2, .int 0), (1, .int 0), (0, .ref (gC 0))]) hx hb d_Rec_keptCount_3 rfl hl (by decide) rfl (fun ls hl => ?_)
  exact t_Rec_keptCount_4 C N χ β2 post   N 0 0 _ _ _ hP hD hS (lv_sub hl [2, 1, 0] rfl) h
set_option maxHeartbeats 4000000 in
set_option maxRecDepth 100000 in
theorem m_Rec_raiseRefund {l : Launch} {D : va_G} {k : Nat → ClassId} (N : Nat) (gC : Nat → Nat) (xt : Nat) (xb : Nat) (χ : St) (x1 : Int32) (post : Int32 → ((St)) → Prop) (h : wp_Rec_raiseRefund N  χ x1 post) : Ci l D k y_Rec_raiseRefund b_Rec_raiseRefund 3 .int rm_Rec_raiseRefund [.ref (gC 0), .int x1] (wRec k gC χ xt xb) (fun u : (St) => wRec k gC u xt xb) post := by
  refine Ci.of (by decide) (Nat.le_of_ble_eq_true rfl) ?_
  intro p e s m below meth c A H locs ls C hP hD hS hl
  obtain ⟨hx, hb, hr, hlk, hml, hown, hts, hK, hA⟩ := id C
  replace hl : lv_has ls 3 [(0, .ref (gC 0)), (1, .int x1)] := hl
  unfold wp_Rec_raiseRefund at h
  refine lv_aload_n hx hb d_Rec_raiseRefund_0 rfl (lv_at hl 0 rfl) ?_
  refine va_get (D := D) (ci := 4) (v := .int (χ 6 0)) (C := R_Rec) (T := F_Rec) (N := 7) hx hb hts in_Rec hown hK hP 0 rfl rfl 6 (by decide) (hts _ kw_729) (fun _ h9 => h9) rfl d_Rec_raiseRefund_1 ?_
  refine lv_istore_n (lv' := [(2, .int (χ 6 0)), (0, .ref (gC 0)), (1, .int x1)]) hx hb d_Rec_raiseRefund_4 rfl hl (by decide) rfl (fun ls hl => ?_)
  refine lv_aload_n hx hb d_Rec_raiseRefund_5 rfl (lv_at hl 1 rfl) ?_
  refine lv_iload_n hx hb d_Rec_raiseRefund_6 rfl (lv_at hl 0 rfl) ?_
  refine lv_aload_n hx hb d_Rec_raiseRefund_7 rfl (lv_at hl 1 rfl) ?_
  refine va_get (D := D) (ci := 4) (v := .int (χ 5 0)) (C := R_Rec) (T := F_Rec) (N := 7) hx hb hts in_Rec hown hK hP 0 rfl rfl 5 (by decide) (hts _ kw_727) (fun _ h9 => h9) rfl d_Rec_raiseRefund_8 ?_
  refine lv_iload_n hx hb d_Rec_raiseRefund_11 rfl (lv_at hl 2 rfl) ?_
  refine lv_isub hx hb d_Rec_raiseRefund_12 ?_
  refine va_mmax hx hb (by rw [hml]; exact hl.1.symm) hown (hts _ kw_837) (hts _ kw_766) (hts _ kw_20) (hts _ kw_767) (Nat.le_of_ble_eq_true rfl) (Nat.le_of_ble_eq_true rfl) (Nat.zero_le _) (Nat.zero_le _) d_Rec_raiseRefund_13 ?_
  refine va_put (D := D) (ci := 4) (v := .int (if (χ 6 0) < ((χ 5 0) - x1) then ((χ 5 0) - x1) else (χ 6 0))) (ty := .int) (C := R_Rec) (T := F_Rec) (N := 7) hx hb hts in_Rec t_Rec tt_Rec n_Rec hown hK hP hD hS 0 rfl rfl 6 (by decide) (hts _ kw_729) (fun _ h9 => h9) rfl (by decide +kernel) rfl rfl (Nat.le_of_ble_eq_true rfl) d_Rec_raiseRefund_16 (fun H locs hP hD hS => ?_)
  obtain ⟨χ1, eχ1⟩ : ∃ z, z = s2 χ 6 0 (if (χ 6 0) < ((χ 5 0) - x1) then ((χ 5 0) - x1) else (χ 6 0)) := ⟨_, rfl⟩
  replace hP : va_P D CL (wRec k gC χ1 xt xb) H := by rw [eχ1]; exact hP
  replace hD : va_D A (wRec k gC χ1 xt xb) := by rw [eχ1]; exact hD
  replace h := h χ1 eχ1
  refine lv_aload_n hx hb d_Rec_raiseRefund_19 rfl (lv_at hl 1 rfl) ?_
  refine va_get (D := D) (ci := 4) (v := .int (χ1 6 0)) (C := R_Rec) (T := F_Rec) (N := 7) hx hb hts in_Rec hown hK hP 0 rfl rfl 6 (by decide) (hts _ kw_729) (fun _ h9 => h9) rfl d_Rec_raiseRefund_20 ?_
  refine lv_iload_n hx hb d_Rec_raiseRefund_23 rfl (lv_at hl 0 rfl) ?_
  refine lv_isub hx hb d_Rec_raiseRefund_24 ?_
  exact ret_i (u := χ1) (wf := (fun u : (St) => wRec k gC u xt xb)) C hP hD hS (Nat.zero_le _) (Nat.zero_le _) h d_Rec_raiseRefund_25
set_option maxHeartbeats 4000000 in
set_option maxRecDepth 100000 in
theorem t_Rec_copyKeptTo_40 {p : Program} {l : Launch} {e : Env} {s : State} {m : MethodId} {args : Array Value} {below : List Frame} {meth : Method} {c : Code} {A : Nat → Prop} {D : va_G} {k : Nat → ClassId} {gC : Nat → Nat} {gB2 : Nat → Nat} {gB : Nat → Nat} {xt : Nat} (C : Cx p s m args meth c D k "PromotionTill$Receipt" b_Rec_copyKeptTo 3 none A) (N : Nat) (χ : St) (β2 : St) (post : ((St)) → Prop) (K_7 : Int32 → (St) → Prop) (hK_7 : ∀ (x2 : Int32) (β : (St)) (H : Heap) (locs : List Loc) (ls : Array Slot), va_P D CL (wRec k gC χ xt (gB2 0) ++ (wBasket k gB2 β2 ++ (wBasket k gB β))) H → va_D A (wRec k gC χ xt (gB2 0) ++ (wBasket k gB2 β2 ++ (wBasket k gB β))) → va_S A s.heap H locs → lv_has ls 3 [(0, .ref (gC 0)), (1, .ref (gB 0)), (2, .int x2)] → K_7 x2 β → W p l e rm_Rec_copyKeptTo s m args below meth c H locs 0 0 (MQ below (va_Qv post (fun (u : (St)) t => va_P D CL (wRec k gC χ xt (gB2 0) ++ (wBasket k gB2 β2 ++ (wBasket k gB u))) t.heap ∧ va_D A (wRec k gC χ xt (gB2 0) ++ (wBasket k gB2 β2 ++ (wBasket k gB u)))) A) args s rm_Rec_copyKeptTo.cells rm_Rec_copyKeptTo.slots A) (F0 m 7 ls [])) :
    ∀ (x2 : Int32) (β : (St)) (H : Heap) (locs : List Loc) (ls : Array Slot), va_P D CL (wRec k gC χ xt (gB2 0) ++ (wBasket k gB2 β2 ++ (wBasket k gB β))) H → va_D A (wRec k gC χ xt (gB2 0) ++ (wBasket k gB2 β2 ++ (wBasket k gB β))) → va_S A s.heap H locs → lv_has ls 3 [(0, .ref (gC 0)), (1, .ref (gB 0)), (2, .int x2)] → wp_Rec_copyKeptTo_40 N χ β2 post K_7 x2 β → W p l e rm_Rec_copyKeptTo s m args below meth c H locs 0 0 (MQ below (va_Qv post (fun (u : (St)) t => va_P D CL (wRec k gC χ xt (gB2 0) ++ (wBasket k gB2 β2 ++ (wBasket k gB u))) t.heap ∧ va_D A (wRec k gC χ xt (gB2 0) ++ (wBasket k gB2 β2 ++ (wBasket k gB u)))) A) args s rm_Rec_copyKeptTo.cells rm_Rec_copyKeptTo.slots A) (F0 m 40 ls []) := by
  obtain ⟨hx, hb, hr, hlk, hml, hown, hts, hK, hA⟩ := id C
  intro x2 β H locs ls hP hD hS hl h
  unfold wp_Rec_copyKeptTo_40 at h
  refine lv_iinc (v := x2 + 1) (lv' := [(2, .int (x2 + 1)), (0, .ref (gC 0)), (1, .ref (gB 0))]) hx hb d_Rec_copyKeptTo_40 hl (k := 2) rfl rfl (by decide) rfl (fun ls hl => ?_)
  refine lv_goto (tgt := 7) hx hb d_Rec_copyKeptTo_43 (by decide) ?_
  exact hK_7 (x2 + 1) β _ _ _ hP hD hS (lv_sub hl [1, 2, 0] rfl) h
set_option maxHeartbeats 4000000 in
set_option maxRecDepth 100000 in
theorem t_Rec_copyKeptTo_7 {p : Program} {l : Launch} {e : Env} {s : State} {m : MethodId} {args : Array Value} {below : List Frame} {meth : Method} {c : Code} {A : Nat → Prop} {D : va_G} {k : Nat → ClassId} {gC : Nat → Nat} {gB2 : Nat → Nat} {gB : Nat → Nat} {xt : Nat} (C : Cx p s m args meth c D k "PromotionTill$Receipt" b_Rec_copyKeptTo 3 none A) (N : Nat) (χ : St) (β2 : St) (post : ((St)) → Prop) :
    ∀ (n : Nat) (x2 : Int32) (β : (St)) (H : Heap) (locs : List Loc) (ls : Array Slot), va_P D CL (wRec k gC χ xt (gB2 0) ++ (wBasket k gB2 β2 ++ (wBasket k gB β))) H → va_D A (wRec k gC χ xt (gB2 0) ++ (wBasket k gB2 β2 ++ (wBasket k gB β))) → va_S A s.heap H locs → lv_has ls 3 [(0, .ref (gC 0)), (1, .ref (gB 0)), (2, .int x2)] → wp_Rec_copyKeptTo_7 N χ β2 post n x2 β → W p l e rm_Rec_copyKeptTo s m args below meth c H locs 0 0 (MQ below (va_Qv post (fun (u : (St)) t => va_P D CL (wRec k gC χ xt (gB2 0) ++ (wBasket k gB2 β2 ++ (wBasket k gB u))) t.heap ∧ va_D A (wRec k gC χ xt (gB2 0) ++ (wBasket k gB2 β2 ++ (wBasket k gB u)))) A) args s rm_Rec_copyKeptTo.cells rm_Rec_copyKeptTo.slots A) (F0 m 7 ls []) := by
  obtain ⟨hx, hb, hr, hlk, hml, hown, hts, hK, hA⟩ := id C
  intro n
  induction n with
  | zero =>
    intro x2 β H locs ls hP hD hS hl h
    exact absurd h (by simp [wp_Rec_copyKeptTo_7])
  | succ n ih =>
    intro x2 β H locs ls hP hD hS hl h
    rw [wp_Rec_copyKeptTo_7] at h
    refine lv_iload_n hx hb d_Rec_copyKeptTo_7 rfl (lv_at hl 2 rfl) ?_
    refine lv_aload_n hx hb d_Rec_copyKeptTo_8 rfl (lv_at hl 0 rfl) ?_
    refine va_get (D := D) (ci := 4) (v := .ref (gB2 0)) (C := R_Rec) (T := F_Rec) (N := 7) hx hb hts in_Rec hown hK hP 0 rfl rfl 1 (by decide) (hts _ kw_719) (fun _ h9 => h9) rfl d_Rec_copyKeptTo_9 ?_
    refine va_get (D := D) (ci := 0) (v := .int (β2 1 0)) (C := R_Basket) (T := F_Basket) (N := 2) hx hb hts in_Basket hown hK hP 4 rfl rfl 1 (by decide) (hts _ kw_105) (fun _ h9 => h9) rfl d_Rec_copyKeptTo_12 ?_
    refine lv_icmp_ge (tgt := 46) hx hb d_Rec_copyKeptTo_15 (by decide) (fun c2 => ?_) (fun c2 => ?_)
    · replace h := h.1 c2
      exact ret_v (u := β) (wf := (fun u : (St) => wRec k gC χ xt (gB2 0) ++ (wBasket k gB2 β2 ++ (wBasket k gB u)))) C hP hD hS (Nat.zero_le _) (Nat.zero_le _) h d_Rec_copyKeptTo_46
    · replace h := h.2 c2
      refine lv_aload_n hx hb d_Rec_copyKeptTo_18 rfl (lv_at hl 0 rfl) ?_
      refine va_get (D := D) (ci := 4) (v := .ref (gC 3)) (C := R_Rec) (T := F_Rec) (N := 7) hx hb hts in_Rec hown hK hP 0 rfl rfl 4 (by decide) (hts _ kw_725) (fun _ h9 => h9) rfl d_Rec_copyKeptTo_19 ?_
      refine lv_iload_n hx hb d_Rec_copyKeptTo_22 rfl (lv_at hl 2 rfl) ?_
      obtain ⟨hi3, h⟩ := h
      refine va_zald hx hb hK hP 3 1 rfl rfl hi3 d_Rec_copyKeptTo_23 ?_
      refine lv_if_eq (tgt := 40) hx hb d_Rec_copyKeptTo_24 (by decide) (fun c4 => ?_) (fun c4 => ?_)
      · replace h := h.1 c4
        exact t_Rec_copyKeptTo_40 C N χ β2 post (wp_Rec_copyKeptTo_7 N χ β2 post n) ih x2 β _ _ _ hP hD hS (lv_sub hl [0, 1, 2] rfl) h
      · replace h := h.2 c4
        refine lv_aload_n hx hb d_Rec_copyKeptTo_27 rfl (lv_at hl 1 rfl) ?_
        refine lv_aload_n hx hb d_Rec_copyKeptTo_28 rfl (lv_at hl 0 rfl) ?_
        refine va_get (D := D) (ci := 4) (v := .ref (gB2 0)) (C := R_Rec) (T := F_Rec) (N := 7) hx hb hts in_Rec hown hK hP 0 rfl rfl 1 (by decide) (hts _ kw_719) (fun _ h9 => h9) rfl d_Rec_copyKeptTo_29 ?_
        refine va_get (D := D) (ci := 0) (v := .ref (gB2 1)) (C := R_Basket) (T := F_Basket) (N := 2) hx hb hts in_Basket hown hK hP 4 rfl rfl 0 (by decide) (hts _ kw_102) (fun _ h9 => h9) rfl d_Rec_copyKeptTo_32 ?_
        refine lv_iload_n hx hb d_Rec_copyKeptTo_35 rfl (lv_at hl 2 rfl) ?_
        obtain ⟨hi5, h⟩ := h
        refine va_iald hx hb hK hP 5 0 rfl rfl hi5 d_Rec_copyKeptTo_36 ?_
        refine call_v (wr := [(gC 0, .inr (4, [.ref xt, .ref (gB2 0), .ref (gC 1), .ref (gC 2), .ref (gC 3), .int (χ 5 0), .int (χ 6 0)])), (gC 1, .inl (k 0, 10, .inl (χ 2))), (gC 2, .inl (k 0, 10, .inl (χ 3))), (gC 3, .inl (k 1, 10, .inl (χ 4))), (gB2 0, .inr (0, [.ref (gB2 1), .int (β2 1 0)])), (gB2 1, .inl (k 0, 10, .inl (β2 0)))]) (wn := (fun u6 : (St) => wRec k gC χ xt (gB2 0) ++ (wBasket k gB2 β2 ++ (wBasket k gB u6)))) C hP hD hS [6, 7] [0, 1, 2, 3, 4, 5] [0, 1, 2, 3, 4, 5, 6, 7] rfl rfl (by decide) (by decide) (fun _ => rfl) (by decide) (runV (As := [.int (β2 0 (Int32.toNatClampNeg x2))]) (rest := []) C (hP.sub [6, 7] rfl) (hD.sub [6, 7] (by decide) rfl) (m_Basket_add N gB β (β2 0 (Int32.toNatClampNeg x2))  _ h H.size) kw_715 kw_428 kw_429 kw_5 kw_430 hd_Basket_add ⟨Nat.le_of_ble_eq_true rfl, Nat.le_of_ble_eq_true rfl⟩ ⟨Nat.le_of_ble_eq_true rfl, Nat.le_of_ble_eq_true rfl⟩ 0 rfl rfl rfl rfl hl.1 (Nat.le_of_ble_eq_true rfl) d_Rec_copyKeptTo_37) (fun u6 H locs h hP hD hS => ?_)
        try dsimp only at h
        exact t_Rec_copyKeptTo_40 C N χ β2 post (wp_Rec_copyKeptTo_7 N χ β2 post n) ih x2 u6 _ _ _ hP hD hS (lv_sub hl [0, 1, 2] rfl) h
set_option maxHeartbeats 4000000 in
set_option maxRecDepth 100000 in
theorem m_Rec_copyKeptTo {l : Launch} {D : va_G} {k : Nat → ClassId} (N : Nat) (gC : Nat → Nat) (gB2 : Nat → Nat) (gB : Nat → Nat) (xt : Nat) (χ : St) (β2 : St) (β : St) (post : ((St)) → Prop) (h : wp_Rec_copyKeptTo N  χ β2 β  post) : Cv l D k y_Rec_copyKeptTo b_Rec_copyKeptTo 3 rm_Rec_copyKeptTo [.ref (gC 0), .ref (gB 0)] (wRec k gC χ xt (gB2 0) ++ (wBasket k gB2 β2 ++ (wBasket k gB β))) (fun u : (St) => wRec k gC χ xt (gB2 0) ++ (wBasket k gB2 β2 ++ (wBasket k gB u))) post := by
  refine Cv.of (by decide) (Nat.le_of_ble_eq_true rfl) ?_
  intro p e s m below meth c A H locs ls C hP hD hS hl
  obtain ⟨hx, hb, hr, hlk, hml, hown, hts, hK, hA⟩ := id C
  replace hl : lv_has ls 3 [(0, .ref (gC 0)), (1, .ref (gB 0))] := hl
  unfold wp_Rec_copyKeptTo at h
  refine lv_aload_n hx hb d_Rec_copyKeptTo_0 rfl (lv_at hl 1 rfl) ?_
  refine lv_iconst (v := 0) hx hb d_Rec_copyKeptTo_1 (by decide) ?_
  refine va_put (D := D) (ci := 0) (v := .int 0) (ty := .int) (C := R_Basket) (T := F_Basket) (N := 2) hx hb hts in_Basket t_Basket tt_Basket n_Basket hown hK hP hD hS 6 rfl rfl 1 (by decide) (hts _ kw_105) (fun _ h9 => h9) rfl (by decide +kernel) rfl rfl (Nat.le_of_ble_eq_true rfl) d_Rec_copyKeptTo_2 (fun H locs hP hD hS => ?_)
  obtain ⟨β1, eβ1⟩ : ∃ z, z = s2 β 1 0 0 := ⟨_, rfl⟩
  replace hP : va_P D CL (wRec k gC χ xt (gB2 0) ++ (wBasket k gB2 β2 ++ (wBasket k gB β1))) H := by rw [eβ1]; exact hP
  replace hD : va_D A (wRec k gC χ xt (gB2 0) ++ (wBasket k gB2 β2 ++ (wBasket k gB β1))) := by rw [eβ1]; exact hD
  replace h := h β1 eβ1
  refine lv_iconst (v := 0) hx hb d_Rec_copyKeptTo_5 (by decide) ?_
  refine lv_istore_n (lv' := [(2, .int 0), (0, .ref (gC 0)), (1, .ref (gB 0))]) hx hb d_Rec_copyKeptTo_6 rfl hl (by decide) rfl (fun ls hl => ?_)
  exact t_Rec_copyKeptTo_7 C N χ β2 post   N 0 β1 _ _ _ hP hD hS (lv_sub hl [1, 2, 0] rfl) h
