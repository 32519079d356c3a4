/-! the reference: the contracts (by program) -/
set_option maxHeartbeats 4000000 in
set_option maxRecDepth 100000 in
theorem m_Model_thrown {l : Launch} {D : va_G} {k : Nat → ClassId} (N : Nat) (g : Nat → Nat) (μ : St) (post : Int32 → (Unit) → Prop) (h : wp_Model_thrown N  μ  post) : Ci l D k y_Model_thrown b_Model_thrown 1 .int rm_Model_thrown [.ref (g 0)] (wModel k g μ) (fun u : Unit => wModel k g μ) post := by
  refine Ci.of (by decide) (Nat.le_of_ble_eq_true rfl) ?_
  intro p e s m below meth c A H locs ls C hP hD hS hl
  obtain ⟨hx, hb, hr, hlk, hml, hown, hts, hK, hA⟩ := id C
  replace hl : lv_has ls 1 [(0, .ref (g 0))] := hl
  unfold wp_Model_thrown at h
  refine lv_aload_n hx hb d_Model_thrown_0 rfl (lv_at hl 0 rfl) ?_
  refine va_get (D := D) (ci := 8) (v := .int (μ 39 0)) (C := R_Model) (T := F_Model) (N := 40) hx hb hts in_Model hown hK hP 0 rfl rfl 39 (by decide) (hts _ kw_901) (fun _ h9 => h9) rfl d_Model_thrown_1 ?_
  exact ret_i (u := ()) (wf := (fun u : Unit => wModel k g μ)) C hP hD hS (Nat.zero_le _) (Nat.zero_le _) h d_Model_thrown_4
set_option maxHeartbeats 4000000 in
set_option maxRecDepth 100000 in
theorem t_Model_within_14 {p : Program} {l : Launch} {e : Env} {s : State} {m : MethodId} {args : Array Value} {below : List Frame} {meth : Method} {c : Code} {A : Nat → Prop} {D : va_G} {k : Nat → ClassId}  (C : Cx p s m args meth c D k "PromotionTillModel" b_Model_within 3 (some .boolean) A) (N : Nat) (post : Int32 → (Unit) → Prop) :
    ∀  (H : Heap) (locs : List Loc) (ls : Array Slot), va_P D CL (([] : va_W)) H → va_D A (([] : va_W)) → va_S A s.heap H locs → lv_has ls 3 [] → wp_Model_within_14 N post  → W p l e rm_Model_within s m args below meth c H locs 0 0 (MQ below (va_Qi post (fun (u : Unit) t => va_P D CL (([] : va_W)) t.heap ∧ va_D A (([] : va_W))) A) args s rm_Model_within.cells rm_Model_within.slots A) (F0 m 14 ls []) := by
  obtain ⟨hx, hb, hr, hlk, hml, hown, hts, hK, hA⟩ := id C
  intro  H locs ls hP hD hS hl h
  unfold wp_Model_within_14 at h
  refine lv_iconst (v := 0) hx hb d_Model_within_14 (by decide) ?_
  exact ret_z (u := ()) (wf := (fun u : Unit => ([] : va_W))) C rfl hP hD hS (Nat.zero_le _) (Nat.zero_le _) h d_Model_within_15
set_option maxHeartbeats 4000000 in
set_option maxRecDepth 100000 in
theorem m_Model_within {l : Launch} {D : va_G} {k : Nat → ClassId} (N : Nat) (x0 : Int32) (x1 : Int32) (x2 : Int32) (post : Int32 → (Unit) → Prop) (h : wp_Model_within N   x0 x1 x2 post) : Ci l D k y_Model_within b_Model_within 3 .boolean rm_Model_within [.int x0, .int x1, .int x2] (([] : va_W)) (fun u : Unit => ([] : va_W)) post := by
  refine Ci.of (by decide) (Nat.le_of_ble_eq_true rfl) ?_
  intro p e s m below meth c A H locs ls C hP hD hS hl
  obtain ⟨hx, hb, hr, hlk, hml, hown, hts, hK, hA⟩ := id C
  replace hl : lv_has ls 3 [(0, .int x0), (1, .int x1), (2, .int x2)] := hl
  unfold wp_Model_within at h
  refine lv_iload_n hx hb d_Model_within_0 rfl (lv_at hl 0 rfl) ?_
  refine lv_iload_n hx hb d_Model_within_1 rfl (lv_at hl 1 rfl) ?_
  refine lv_icmp_lt (tgt := 14) hx hb d_Model_within_2 (by decide) (fun c1 => ?_) (fun c1 => ?_)
  · replace h := h.1 c1
    exact t_Model_within_14 C N post  _ _ _ hP hD hS (lv_sub hl [] rfl) h
  · replace h := h.2 c1
    refine lv_iload_n hx hb d_Model_within_5 rfl (lv_at hl 0 rfl) ?_
    refine lv_iload_n hx hb d_Model_within_6 rfl (lv_at hl 2 rfl) ?_
    refine lv_icmp_gt (tgt := 14) hx hb d_Model_within_7 (by decide) (fun c2 => ?_) (fun c2 => ?_)
    · replace h := h.1 c2
      exact t_Model_within_14 C N post  _ _ _ hP hD hS (lv_sub hl [] rfl) h
    · replace h := h.2 c2
      refine lv_iconst (v := 1) hx hb d_Model_within_10 (by decide) ?_
      refine lv_goto (tgt := 15) hx hb d_Model_within_11 (by decide) ?_
      exact ret_z (u := ()) (wf := (fun u : Unit => ([] : va_W))) C rfl hP hD hS (Nat.zero_le _) (Nat.zero_le _) h d_Model_within_15
set_option maxHeartbeats 4000000 in
set_option maxRecDepth 100000 in
theorem t_Model_article_58 {p : Program} {l : Launch} {e : Env} {s : State} {m : MethodId} {args : Array Value} {below : List Frame} {meth : Method} {c : Code} {A : Nat → Prop} {D : va_G} {k : Nat → ClassId} {g : Nat → Nat} (C : Cx p s m args meth c D k "PromotionTillModel" b_Model_article 5 none A) (N : Nat) (post : ((St)) → Prop) :
    ∀ (x1 : Int32) (x2 : Int32) (x3 : Int32) (y0 : Int32) (μ : (St)) (H : Heap) (locs : List Loc) (ls : Array Slot), va_P D CL (wModel k g μ) H → va_D A (wModel k g μ) → va_S A s.heap H locs → lv_has ls 5 [(0, .ref (g 0)), (1, .int x1), (2, .int x2), (3, .int x3)] → wp_Model_article_58 N post x1 x2 x3 y0 μ → W p l e rm_Model_article s m args below meth c H locs 0 0 (MQ below (va_Qv post (fun (u : (St)) t => va_P D CL (wModel k g u) t.heap ∧ va_D A (wModel k g u)) A) args s rm_Model_article.cells rm_Model_article.slots A) (F0 m 58 ls [.int y0, .ref (g 0)]) := by
  obtain ⟨hx, hb, hr, hlk, hml, hown, hts, hK, hA⟩ := id C
  intro x1 x2 x3 y0 μ H locs ls hP hD hS hl h
  unfold wp_Model_article_58 at h
  refine va_put (D := D) (ci := 8) (v := .int y0) (ty := .int) (C := R_Model) (T := F_Model) (N := 40) hx hb hts in_Model t_Model tt_Model n_Model hown hK hP hD hS 0 rfl rfl 39 (by decide) (hts _ kw_901) (fun _ h9 => h9) rfl (by decide +kernel) rfl rfl (Nat.le_of_ble_eq_true rfl) d_Model_article_58 (fun H locs hP hD hS => ?_)
  obtain ⟨μ12, eμ12⟩ : ∃ z, z = s2 μ 39 0 y0 := ⟨_, rfl⟩
  replace hP : va_P D CL (wModel k g μ12) H := by rw [eμ12]; exact hP
  replace hD : va_D A (wModel k g μ12) := by rw [eμ12]; exact hD
  replace h := h μ12 eμ12
  refine lv_aload_n hx hb d_Model_article_61 rfl (lv_at hl 0 rfl) ?_
  refine va_get (D := D) (ci := 8) (v := .int (μ12 39 0)) (C := R_Model) (T := F_Model) (N := 40) hx hb hts in_Model hown hK hP 0 rfl rfl 39 (by decide) (hts _ kw_901) (fun _ h9 => h9) rfl d_Model_article_62 ?_
  refine lv_if_eq (tgt := 69) hx hb d_Model_article_65 (by decide) (fun c13 => ?_) (fun c13 => ?_)
  · replace h := h.1 c13
    refine lv_aload_n hx hb d_Model_article_69 rfl (lv_at hl 0 rfl) ?_
    refine va_get (D := D) (ci := 8) (v := .ref (g 1)) (C := R_Model) (T := F_Model) (N := 40) hx hb hts in_Model hown hK hP 0 rfl rfl 0 (by decide) (hts _ kw_862) (fun _ h9 => h9) rfl d_Model_article_70 ?_
    refine lv_iload_n hx hb d_Model_article_73 rfl (lv_at hl 1 rfl) ?_
    refine lv_iload_n hx hb d_Model_article_74 rfl (lv_at hl 2 rfl) ?_
    obtain ⟨hi14, h⟩ := h
    refine va_iast hx hb hK hP hD hS 1 0 rfl rfl hi14 d_Model_article_75 (fun H locs hP hD hS => ?_)
    obtain ⟨μ15, eμ15⟩ : ∃ z, z = s2 μ12 0 (Int32.toNatClampNeg x1) x2 := ⟨_, rfl⟩
    replace hP : va_P D CL (wModel k g μ15) H := by rw [eμ15]; exact hP
    replace hD : va_D A (wModel k g μ15) := by rw [eμ15]; exact hD
    replace h := h μ15 eμ15
    refine lv_aload_n hx hb d_Model_article_76 rfl (lv_at hl 0 rfl) ?_
    refine va_get (D := D) (ci := 8) (v := .ref (g 2)) (C := R_Model) (T := F_Model) (N := 40) hx hb hts in_Model hown hK hP 0 rfl rfl 1 (by decide) (hts _ kw_863) (fun _ h9 => h9) rfl d_Model_article_77 ?_
    refine lv_iload_n hx hb d_Model_article_80 rfl (lv_at hl 1 rfl) ?_
    refine lv_iload_n hx hb d_Model_article_81 rfl (lv_at hl 3 rfl) ?_
    obtain ⟨hi16, h⟩ := h
    refine va_iast hx hb hK hP hD hS 2 0 rfl rfl hi16 d_Model_article_82 (fun H locs hP hD hS => ?_)
    obtain ⟨μ17, eμ17⟩ : ∃ z, z = s2 μ15 1 (Int32.toNatClampNeg x1) x3 := ⟨_, rfl⟩
    replace hP : va_P D CL (wModel k g μ17) H := by rw [eμ17]; exact hP
    replace hD : va_D A (wModel k g μ17) := by rw [eμ17]; exact hD
    replace h := h μ17 eμ17
    exact ret_v (u := μ17) (wf := (fun u : (St) => wModel k g u)) C hP hD hS (Nat.zero_le _) (Nat.zero_le _) h d_Model_article_83
  · replace h := h.2 c13
    exact ret_v (u := μ12) (wf := (fun u : (St) => wModel k g u)) C hP hD hS (Nat.zero_le _) (Nat.zero_le _) h d_Model_article_68
set_option maxHeartbeats 4000000 in
set_option maxRecDepth 100000 in
theorem t_Model_article_34 {p : Program} {l : Launch} {e : Env} {s : State} {m : MethodId} {args : Array Value} {below : List Frame} {meth : Method} {c : Code} {A : Nat → Prop} {D : va_G} {k : Nat → ClassId} {g : Nat → Nat} (C : Cx p s m args meth c D k "PromotionTillModel" b_Model_article 5 none A) (N : Nat) (post : ((St)) → Prop) :
    ∀ (x1 : Int32) (x2 : Int32) (x3 : Int32) (y0 : Int32) (μ : (St)) (H : Heap) (locs : List Loc) (ls : Array Slot), va_P D CL (wModel k g μ) H → va_D A (wModel k g μ) → va_S A s.heap H locs → lv_has ls 5 [(0, .ref (g 0)), (1, .int x1), (2, .int x2), (3, .int x3)] → wp_Model_article_34 N post x1 x2 x3 y0 μ → W p l e rm_Model_article s m args below meth c H locs 0 0 (MQ below (va_Qv post (fun (u : (St)) t => va_P D CL (wModel k g u) t.heap ∧ va_D A (wModel k g u)) A) args s rm_Model_article.cells rm_Model_article.slots A) (F0 m 34 ls [.int y0]) := by
  obtain ⟨hx, hb, hr, hlk, hml, hown, hts, hK, hA⟩ := id C
  intro x1 x2 x3 y0 μ H locs ls hP hD hS hl h
  unfold wp_Model_article_34 at h
  refine lv_istore (lv' := [(4, .int y0), (0, .ref (g 0)), (1, .int x1), (2, .int x2), (3, .int x3)]) hx hb d_Model_article_34 hl (by decide) rfl (fun ls hl => ?_)
  refine lv_aload_n hx hb d_Model_article_36 rfl (lv_at hl 1 rfl) ?_
  refine lv_iload hx hb d_Model_article_37 (lv_at hl 0 rfl) ?_
  refine lv_if_ne (tgt := 46) hx hb d_Model_article_39 (by decide) (fun c10 => ?_) (fun c10 => ?_)
  · replace h := h.1 c10
    refine lv_aload_n hx hb d_Model_article_46 rfl (lv_at hl 1 rfl) ?_
    refine va_get (D := D) (ci := 8) (v := .int (μ 9 0)) (C := R_Model) (T := F_Model) (N := 40) hx hb hts in_Model hown hK hP 0 rfl rfl 9 (by decide) (hts _ kw_871) (fun _ h9 => h9) rfl d_Model_article_47 ?_
    refine lv_if_le (tgt := 57) hx hb d_Model_article_50 (by decide) (fun c11 => ?_) (fun c11 => ?_)
    · replace h := h.1 c11
      refine lv_iconst (v := 0) hx hb d_Model_article_57 (by decide) ?_
      exact t_Model_article_58 C N post x1 x2 x3 0 μ _ _ _ hP hD hS (lv_sub hl [1, 2, 3, 4] rfl) h
    · replace h := h.2 c11
      refine lv_iconst (v := 2) hx hb d_Model_article_53 (by decide) ?_
      refine lv_goto (tgt := 58) hx hb d_Model_article_54 (by decide) ?_
      exact t_Model_article_58 C N post x1 x2 x3 2 μ _ _ _ hP hD hS (lv_sub hl [1, 2, 3, 4] rfl) h
  · replace h := h.2 c10
    refine lv_iconst (v := 1) hx hb d_Model_article_42 (by decide) ?_
    refine lv_goto (tgt := 58) hx hb d_Model_article_43 (by decide) ?_
    exact t_Model_article_58 C N post x1 x2 x3 1 μ _ _ _ hP hD hS (lv_sub hl [1, 2, 3, 4] rfl) h
set_option maxHeartbeats 4000000 in
set_option maxRecDepth 100000 in
theorem t_Model_article_33 {p : Program} {l : Launch} {e : Env} {s : State} {m : MethodId} {args : Array Value} {below : List Frame} {meth : Method} {c : Code} {A : Nat → Prop} {D : va_G} {k : Nat → ClassId} {g : Nat → Nat} (C : Cx p s m args meth c D k "PromotionTillModel" b_Model_article 5 none A) (N : Nat) (post : ((St)) → Prop) (K_34 : Int32 → Int32 → Int32 → Int32 → (St) → Prop) (hK_34 : ∀ (x1 : Int32) (x2 : Int32) (x3 : Int32) (y0 : Int32) (μ : (St)) (H : Heap) (locs : List Loc) (ls : Array Slot), va_P D CL (wModel k g μ) H → va_D A (wModel k g μ) → va_S A s.heap H locs → lv_has ls 5 [(0, .ref (g 0)), (1, .int x1), (2, .int x2), (3, .int x3)] → K_34 x1 x2 x3 y0 μ → W p l e rm_Model_article s m args below meth c H locs 0 0 (MQ below (va_Qv post (fun (u : (St)) t => va_P D CL (wModel k g u) t.heap ∧ va_D A (wModel k g u)) A) args s rm_Model_article.cells rm_Model_article.slots A) (F0 m 34 ls [.int y0])) :
    ∀ (x1 : Int32) (x2 : Int32) (x3 : Int32) (μ : (St)) (H : Heap) (locs : List Loc) (ls : Array Slot), va_P D CL (wModel k g μ) H → va_D A (wModel k g μ) → va_S A s.heap H locs → lv_has ls 5 [(0, .ref (g 0)), (1, .int x1), (2, .int x2), (3, .int x3)] → wp_Model_article_33 N post K_34 x1 x2 x3 μ → W p l e rm_Model_article s m args below meth c H locs 0 0 (MQ below (va_Qv post (fun (u : (St)) t => va_P D CL (wModel k g u) t.heap ∧ va_D A (wModel k g u)) A) args s rm_Model_article.cells rm_Model_article.slots A) (F0 m 33 ls []) := by
  obtain ⟨hx, hb, hr, hlk, hml, hown, hts, hK, hA⟩ := id C
  intro x1 x2 x3 μ H locs ls hP hD hS hl h
  unfold wp_Model_article_33 at h
  refine lv_iconst (v := 0) hx hb d_Model_article_33 (by decide) ?_
  exact hK_34 x1 x2 x3 0 μ _ _ _ hP hD hS (lv_sub hl [0, 1, 2, 3] rfl) h
set_option maxHeartbeats 4000000 in
set_option maxRecDepth 100000 in
theorem m_Model_article {l : Launch} {D : va_G} {k : Nat → ClassId} (N : Nat) (g : Nat → Nat) (μ : St) (x1 : Int32) (x2 : Int32) (x3 : Int32) (post : ((St)) → Prop) (h : wp_Model_article N  μ x1 x2 x3 post) : Cv l D k y_Model_article b_Model_article 5 rm_Model_article [.ref (g 0), .int x1, .int x2, .int x3] (wModel k g μ) (fun u : (St) => wModel k g u) post := by
  refine Cv.of (by decide) (Nat.le_of_ble_eq_true rfl) ?_
  intro p e s m below meth c A H locs ls C hP hD hS hl
  obtain ⟨hx, hb, hr, hlk, hml, hown, hts, hK, hA⟩ := id C
  replace hl : lv_has ls 5 [(0, .ref (g 0)), (1, .int x1), (2, .int x2), (3, .int x3)] := hl
  unfold wp_Model_article at h
  refine lv_iload_n hx hb d_Model_article_0 rfl (lv_at hl 1 rfl) ?_
  refine lv_iconst (v := 0) hx hb d_Model_article_1 (by decide) ?_
  refine lv_bipush (v := 11) hx hb d_Model_article_2 (by decide) ?_
  refine none_i C hP hD hS (runS (As := [.int x1, .int 0, .int 11]) (rest := []) C nilP nilD (m_Model_within N   x1 0 11  _ h H.size) kw_991 kw_992 kw_12 kw_993 (hd_Model_within).2 ⟨Nat.le_of_ble_eq_true rfl, Nat.le_of_ble_eq_true rfl⟩ ⟨Nat.le_of_ble_eq_true rfl, Nat.le_of_ble_eq_true rfl⟩ rfl hl.1 (Nat.le_of_ble_eq_true rfl) d_Model_article_4) (fun r2 u1 H locs h hP hD hS => ?_)
  try dsimp only at h
  refine lv_if_eq (tgt := 33) hx hb d_Model_article_7 (by decide) (fun c3 => ?_) (fun c3 => ?_)
  · replace h := h.1 c3
    exact t_Model_article_33 C N post (wp_Model_article_34 N post) (t_Model_article_34 C N post) x1 x2 x3 μ _ _ _ hP hD hS (lv_sub hl [0, 1, 2, 3] rfl) h
  · replace h := h.2 c3
    refine lv_iload_n hx hb d_Model_article_10 rfl (lv_at hl 2 rfl) ?_
    refine lv_iconst (v := 1) hx hb d_Model_article_11 (by decide) ?_
    refine lv_ldc (v := 100000) hx hb hown (hts _ kw_994) d_Model_article_12 ?_
    refine none_i C hP hD hS (runS (As := [.int x2, .int 1, .int 100000]) (rest := []) C nilP nilD (m_Model_within N   x2 1 100000  _ h H.size) kw_991 kw_992 kw_12 kw_993 (hd_Model_within).2 ⟨Nat.le_of_ble_eq_true rfl, Nat.le_of_ble_eq_true rfl⟩ ⟨Nat.le_of_ble_eq_true rfl, Nat.le_of_ble_eq_true rfl⟩ rfl hl.1 (Nat.le_of_ble_eq_true rfl) d_Model_article_14) (fun r5 u4 H locs h hP hD hS => ?_)
    try dsimp only at h
    refine lv_if_eq (tgt := 33) hx hb d_Model_article_17 (by decide) (fun c6 => ?_) (fun c6 => ?_)
    · replace h := h.1 c6
      exact t_Model_article_33 C N post (wp_Model_article_34 N post) (t_Model_article_34 C N post) x1 x2 x3 μ _ _ _ hP hD hS (lv_sub hl [0, 1, 2, 3] rfl) h
    · replace h := h.2 c6
      refine lv_iload_n hx hb d_Model_article_20 rfl (lv_at hl 3 rfl) ?_
      refine lv_iconst (v := 0) hx hb d_Model_article_21 (by decide) ?_
      refine lv_iconst (v := 3) hx hb d_Model_article_22 (by decide) ?_
      refine none_i C hP hD hS (runS (As := [.int x3, .int 0, .int 3]) (rest := []) C nilP nilD (m_Model_within N   x3 0 3  _ h H.size) kw_991 kw_992 kw_12 kw_993 (hd_Model_within).2 ⟨Nat.le_of_ble_eq_true rfl, Nat.le_of_ble_eq_true rfl⟩ ⟨Nat.le_of_ble_eq_true rfl, Nat.le_of_ble_eq_true rfl⟩ rfl hl.1 (Nat.le_of_ble_eq_true rfl) d_Model_article_23) (fun r8 u7 H locs h hP hD hS => ?_)
      try dsimp only at h
      refine lv_if_eq (tgt := 33) hx hb d_Model_article_26 (by decide) (fun c9 => ?_) (fun c9 => ?_)
      · replace h := h.1 c9
        exact t_Model_article_33 C N post (wp_Model_article_34 N post) (t_Model_article_34 C N post) x1 x2 x3 μ _ _ _ hP hD hS (lv_sub hl [0, 1, 2, 3] rfl) h
      · replace h := h.2 c9
        refine lv_iconst (v := 1) hx hb d_Model_article_29 (by decide) ?_
        refine lv_goto (tgt := 34) hx hb d_Model_article_30 (by decide) ?_
        exact t_Model_article_34 C N post x1 x2 x3 1 μ _ _ _ hP hD hS (lv_sub hl [0, 1, 2, 3] rfl) h
set_option maxHeartbeats 4000000 in
set_option maxRecDepth 100000 in
theorem t_Model_offer_77 {p : Program} {l : Launch} {e : Env} {s : State} {m : MethodId} {args : Array Value} {below : List Frame} {meth : Method} {c : Code} {A : Nat → Prop} {D : va_G} {k : Nat → ClassId} {g : Nat → Nat} (C : Cx p s m args meth c D k "PromotionTillModel" b_Model_offer 8 none A) (N : Nat) (post : ((St)) → Prop) :
    ∀ (x1 : Int32) (x2 : Int32) (x3 : Int32) (x4 : Int32) (x5 : Int32) (y0 : Int32) (μ : (St)) (H : Heap) (locs : List Loc) (ls : Array Slot), va_P D CL (wModel k g μ) H → va_D A (wModel k g μ) → va_S A s.heap H locs → lv_has ls 8 [(0, .ref (g 0)), (1, .int x1), (2, .int x2), (3, .int x3), (4, .int x4), (5, .int x5)] → wp_Model_offer_77 N post x1 x2 x3 x4 x5 y0 μ → W p l e rm_Model_offer s m args below meth c H locs 0 0 (MQ below (va_Qv post (fun (u : (St)) t => va_P D CL (wModel k g u) t.heap ∧ va_D A (wModel k g u)) A) args s rm_Model_offer.cells rm_Model_offer.slots A) (F0 m 77 ls [.int y0, .ref (g 0)]) := by
  obtain ⟨hx, hb, hr, hlk, hml, hown, hts, hK, hA⟩ := id C
  intro x1 x2 x3 x4 x5 y0 μ H locs ls hP hD hS hl h
  unfold wp_Model_offer_77 at h
  refine va_put (D := D) (ci := 8) (v := .int y0) (ty := .int) (C := R_Model) (T := F_Model) (N := 40) hx hb hts in_Model t_Model tt_Model n_Model hown hK hP hD hS 0 rfl rfl 39 (by decide) (hts _ kw_901) (fun _ h9 => h9) rfl (by decide +kernel) rfl rfl (Nat.le_of_ble_eq_true rfl) d_Model_offer_77 (fun H locs hP hD hS => ?_)
  obtain ⟨μ18, eμ18⟩ : ∃ z, z = s2 μ 39 0 y0 := ⟨_, rfl⟩
  replace hP : va_P D CL (wModel k g μ18) H := by rw [eμ18]; exact hP
  replace hD : va_D A (wModel k g μ18) := by rw [eμ18]; exact hD
  replace h := h μ18 eμ18
  refine lv_aload_n hx hb d_Model_offer_80 rfl (lv_at hl 0 rfl) ?_
  refine va_get (D := D) (ci := 8) (v := .int (μ18 39 0)) (C := R_Model) (T := F_Model) (N := 40) hx hb hts in_Model hown hK hP 0 rfl rfl 39 (by decide) (hts _ kw_901) (fun _ h9 => h9) rfl d_Model_offer_81 ?_
  refine lv_if_eq (tgt := 88) hx hb d_Model_offer_84 (by decide) (fun c19 => ?_) (fun c19 => ?_)
  · replace h := h.1 c19
    refine lv_bipush (v := 72) hx hb d_Model_offer_88 (by decide) ?_
    refine lv_iload_n hx hb d_Model_offer_90 rfl (lv_at hl 1 rfl) ?_
    refine lv_iadd hx hb d_Model_offer_91 ?_
    refine lv_istore (lv' := [(7, .int (72 + x1)), (0, .ref (g 0)), (1, .int x1), (2, .int x2), (3, .int x3), (4, .int x4), (5, .int x5)]) hx hb d_Model_offer_92 hl (by decide) rfl (fun ls hl => ?_)
    refine lv_aload_n hx hb d_Model_offer_94 rfl (lv_at hl 1 rfl) ?_
    refine va_get (D := D) (ci := 8) (v := .ref (g 3)) (C := R_Model) (T := F_Model) (N := 40) hx hb hts in_Model hown hK hP 0 rfl rfl 2 (by decide) (hts _ kw_864) (fun _ h9 => h9) rfl d_Model_offer_95 ?_
    refine lv_iload hx hb d_Model_offer_98 (lv_at hl 0 rfl) ?_
    refine lv_iload_n hx hb d_Model_offer_100 rfl (lv_at hl 3 rfl) ?_
    obtain ⟨hi20, h⟩ := h
    refine va_iast hx hb hK hP hD hS 3 0 rfl rfl hi20 d_Model_offer_101 (fun H locs hP hD hS => ?_)
    obtain ⟨μ21, eμ21⟩ : ∃ z, z = s2 μ18 2 (Int32.toNatClampNeg (72 + x1)) x2 := ⟨_, rfl⟩
    replace hP : va_P D CL (wModel k g μ21) H := by rw [eμ21]; exact hP
    replace hD : va_D A (wModel k g μ21) := by rw [eμ21]; exact hD
    replace h := h μ21 eμ21
    refine lv_aload_n hx hb d_Model_offer_102 rfl (lv_at hl 1 rfl) ?_
    refine va_get (D := D) (ci := 8) (v := .ref (g 4)) (C := R_Model) (T := F_Model) (N := 40) hx hb hts in_Model hown hK hP 0 rfl rfl 3 (by decide) (hts _ kw_865) (fun _ h9 => h9) rfl d_Model_offer_103 ?_
    refine lv_iload hx hb d_Model_offer_106 (lv_at hl 0 rfl) ?_
    refine lv_iload_n hx hb d_Model_offer_108 rfl (lv_at hl 4 rfl) ?_
    obtain ⟨hi22, h⟩ := h
    refine va_iast hx hb hK hP hD hS 4 0 rfl rfl hi22 d_Model_offer_109 (fun H locs hP hD hS => ?_)
    obtain ⟨μ23, eμ23⟩ : ∃ z, z = s2 μ21 3 (Int32.toNatClampNeg (72 + x1)) x3 := ⟨_, rfl⟩
    replace hP : va_P D CL (wModel k g μ23) H := by rw [eμ23]; exact hP
    replace hD : va_D A (wModel k g μ23) := by rw [eμ23]; exact hD
    replace h := h μ23 eμ23
    refine lv_aload_n hx hb d_Model_offer_110 rfl (lv_at hl 1 rfl) ?_
    refine va_get (D := D) (ci := 8) (v := .ref (g 5)) (C := R_Model) (T := F_Model) (N := 40) hx hb hts in_Model hown hK hP 0 rfl rfl 4 (by decide) (hts _ kw_866) (fun _ h9 => h9) rfl d_Model_offer_111 ?_
    refine lv_iload hx hb d_Model_offer_114 (lv_at hl 0 rfl) ?_
    refine lv_iload hx hb d_Model_offer_116 (lv_at hl 5 rfl) ?_
    obtain ⟨hi24, h⟩ := h
    refine va_iast hx hb hK hP hD hS 5 0 rfl rfl hi24 d_Model_offer_118 (fun H locs hP hD hS => ?_)
    obtain ⟨μ25, eμ25⟩ : ∃ z, z = s2 μ23 4 (Int32.toNatClampNeg (72 + x1)) x4 := ⟨_, rfl⟩
    replace hP : va_P D CL (wModel k g μ25) H := by rw [eμ25]; exact hP
    replace hD : va_D A (wModel k g μ25) := by rw [eμ25]; exact hD
    replace h := h μ25 eμ25
    refine lv_aload_n hx hb d_Model_offer_119 rfl (lv_at hl 1 rfl) ?_
    refine va_get (D := D) (ci := 8) (v := .ref (g 6)) (C := R_Model) (T := F_Model) (N := 40) hx hb hts in_Model hown hK hP 0 rfl rfl 5 (by decide) (hts _ kw_867) (fun _ h9 => h9) rfl d_Model_offer_120 ?_
    refine lv_iload hx hb d_Model_offer_123 (lv_at hl 0 rfl) ?_
    refine lv_iload hx hb d_Model_offer_125 (lv_at hl 6 rfl) ?_
    obtain ⟨hi26, h⟩ := h
    refine va_iast hx hb hK hP hD hS 6 0 rfl rfl hi26 d_Model_offer_127 (fun H locs hP hD hS => ?_)
    obtain ⟨μ27, eμ27⟩ : ∃ z, z = s2 μ25 5 (Int32.toNatClampNeg (72 + x1)) x5 := ⟨_, rfl⟩
    replace hP : va_P D CL (wModel k g μ27) H := by rw [eμ27]; exact hP
    replace hD : va_D A (wModel k g μ27) := by rw [eμ27]; exact hD
    replace h := h μ27 eμ27
    exact ret_v (u := μ27) (wf := (fun u : (St) => wModel k g u)) C hP hD hS (Nat.zero_le _) (Nat.zero_le _) h d_Model_offer_128
  · replace h := h.2 c19
    exact ret_v (u := μ18) (wf := (fun u : (St) => wModel k g u)) C hP hD hS (Nat.zero_le _) (Nat.zero_le _) h d_Model_offer_87
set_option maxHeartbeats 4000000 in
set_option maxRecDepth 100000 in
theorem t_Model_offer_53 {p : Program} {l : Launch} {e : Env} {s : State} {m : MethodId} {args : Array Value} {below : List Frame} {meth : Method} {c : Code} {A : Nat → Prop} {D : va_G} {k : Nat → ClassId} {g : Nat → Nat} (C : Cx p s m args meth c D k "PromotionTillModel" b_Model_offer 8 none A) (N : Nat) (post : ((St)) → Prop) :
    ∀ (x1 : Int32) (x2 : Int32) (x3 : Int32) (x4 : Int32) (x5 : Int32) (y0 : Int32) (μ : (St)) (H : Heap) (locs : List Loc) (ls : Array Slot), va_P D CL (wModel k g μ) H → va_D A (wModel k g μ) → va_S A s.heap H locs → lv_has ls 8 [(0, .ref (g 0)), (1, .int x1), (2, .int x2), (3, .int x3), (4, .int x4), (5, .int x5)] → wp_Model_offer_53 N post x1 x2 x3 x4 x5 y0 μ → W p l e rm_Model_offer s m args below meth c H locs 0 0 (MQ below (va_Qv post (fun (u : (St)) t => va_P D CL (wModel k g u) t.heap ∧ va_D A (wModel k g u)) A) args s rm_Model_offer.cells rm_Model_offer.slots A) (F0 m 53 ls [.int y0]) := by
  obtain ⟨hx, hb, hr, hlk, hml, hown, hts, hK, hA⟩ := id C
  intro x1 x2 x3 x4 x5 y0 μ H locs ls hP hD hS hl h
  unfold wp_Model_offer_53 at h
  refine lv_istore (lv' := [(6, .int y0), (0, .ref (g 0)), (1, .int x1), (2, .int x2), (3, .int x3), (4, .int x4), (5, .int x5)]) hx hb d_Model_offer_53 hl (by decide) rfl (fun ls hl => ?_)
  refine lv_aload_n hx hb d_Model_offer_55 rfl (lv_at hl 1 rfl) ?_
  refine lv_iload hx hb d_Model_offer_56 (lv_at hl 0 rfl) ?_
  refine lv_if_ne (tgt := 65) hx hb d_Model_offer_58 (by decide) (fun c16 => ?_) (fun c16 => ?_)
  · replace h := h.1 c16
    refine lv_aload_n hx hb d_Model_offer_65 rfl (lv_at hl 1 rfl) ?_
    refine va_get (D := D) (ci := 8) (v := .int (μ 9 0)) (C := R_Model) (T := F_Model) (N := 40) hx hb hts in_Model hown hK hP 0 rfl rfl 9 (by decide) (hts _ kw_871) (fun _ h9 => h9) rfl d_Model_offer_66 ?_
    refine lv_if_le (tgt := 76) hx hb d_Model_offer_69 (by decide) (fun c17 => ?_) (fun c17 => ?_)
    · replace h := h.1 c17
      refine lv_iconst (v := 0) hx hb d_Model_offer_76 (by decide) ?_
      exact t_Model_offer_77 C N post x1 x2 x3 x4 x5 0 μ _ _ _ hP hD hS (lv_sub hl [1, 2, 3, 4, 5, 6] rfl) h
    · replace h := h.2 c17
      refine lv_iconst (v := 2) hx hb d_Model_offer_72 (by decide) ?_
      refine lv_goto (tgt := 77) hx hb d_Model_offer_73 (by decide) ?_
      exact t_Model_offer_77 C N post x1 x2 x3 x4 x5 2 μ _ _ _ hP hD hS (lv_sub hl [1, 2, 3, 4, 5, 6] rfl) h
  · replace h := h.2 c16
    refine lv_iconst (v := 1) hx hb d_Model_offer_61 (by decide) ?_
    refine lv_goto (tgt := 77) hx hb d_Model_offer_62 (by decide) ?_
    exact t_Model_offer_77 C N post x1 x2 x3 x4 x5 1 μ _ _ _ hP hD hS (lv_sub hl [1, 2, 3, 4, 5, 6] rfl) h
set_option maxHeartbeats 4000000 in
set_option maxRecDepth 100000 in
theorem t_Model_offer_52 {p : Program} {l : Launch} {e : Env} {s : State} {m : MethodId} {args : Array Value} {below : List Frame} {meth : Method} {c : Code} {A : Nat → Prop} {D : va_G} {k : Nat → ClassId} {g : Nat → Nat} (C : Cx p s m args meth c D k "PromotionTillModel" b_Model_offer 8 none A) (N : Nat) (post : ((St)) → Prop) (K_53 : Int32 → Int32 → Int32 → Int32 → Int32 → Int32 → (St) → Prop) (hK_53 : ∀ (x1 : Int32) (x2 : Int32) (x3 : Int32) (x4 : Int32) (x5 : Int32) (y0 : Int32) (μ : (St)) (H : Heap) (locs : List Loc) (ls : Array Slot), va_P D CL (wModel k g μ) H → va_D A (wModel k g μ) → va_S A s.heap H locs → lv_has ls 8 [(0, .ref (g 0)), (1, .int x1), (2, .int x2), (3, .int x3), (4, .int x4), (5, .int x5)] → K_53 x1 x2 x3 x4 x5 y0 μ → W p l e rm_Model_offer s m args below meth c H locs 0 0 (MQ below (va_Qv post (fun (u : (St)) t => va_P D CL (wModel k g u) t.heap ∧ va_D A (wModel k g u)) A) args s rm_Model_offer.cells rm_Model_offer.slots A) (F0 m 53 ls [.int y0])) :
    ∀ (x1 : Int32) (x2 : Int32) (x3 : Int32) (x4 : Int32) (x5 : Int32) (μ : (St)) (H : Heap) (locs : List Loc) (ls : Array Slot), va_P D CL (wModel k g μ) H → va_D A (wModel k g μ) → va_S A s.heap H locs → lv_has ls 8 [(0, .ref (g 0)), (1, .int x1), (2, .int x2), (3, .int x3), (4, .int x4), (5, .int x5)] → wp_Model_offer_52 N post K_53 x1 x2 x3 x4 x5 μ → W p l e rm_Model_offer s m args below meth c H locs 0 0 (MQ below (va_Qv post (fun (u : (St)) t => va_P D CL (wModel k g u) t.heap ∧ va_D A (wModel k g u)) A) args s rm_Model_offer.cells rm_Model_offer.slots A) (F0 m 52 ls []) := by
  obtain ⟨hx, hb, hr, hlk, hml, hown, hts, hK, hA⟩ := id C
  intro x1 x2 x3 x4 x5 μ H locs ls hP hD hS hl h
  unfold wp_Model_offer_52 at h
  refine lv_iconst (v := 0) hx hb d_Model_offer_52 (by decide) ?_
  exact hK_53 x1 x2 x3 x4 x5 0 μ _ _ _ hP hD hS (lv_sub hl [0, 1, 2, 3, 4, 5] rfl) h
set_option maxHeartbeats 4000000 in
set_option maxRecDepth 100000 in
theorem m_Model_offer {l : Launch} {D : va_G} {k : Nat → ClassId} (N : Nat) (g : Nat → Nat) (μ : St) (x1 : Int32) (x2 : Int32) (x3 : Int32) (x4 : Int32) (x5 : Int32) (post : ((St)) → Prop) (h : wp_Model_offer N  μ x1 x2 x3 x4 x5 post) : Cv l D k y_Model_offer b_Model_offer 8 rm_Model_offer [.ref (g 0), .int x1, .int x2, .int x3, .int x4, .int x5] (wModel k g μ) (fun u : (St) => wModel k g u) post := by
  refine Cv.of (by decide) (Nat.le_of_ble_eq_true rfl) ?_
  intro p e s m below meth c A H locs ls C hP hD hS hl
  obtain ⟨hx, hb, hr, hlk, hml, hown, hts, hK, hA⟩ := id C
  replace hl : lv_has ls 8 [(0, .ref (g 0)), (1, .int x1), (2, .int x2), (3, .int x3), (4, .int x4), (5, .int x5)] := hl
  unfold wp_Model_offer at h
  refine lv_iload_n hx hb d_Model_offer_0 rfl (lv_at hl 1 rfl) ?_
  refine lv_iconst (v := 0) hx hb d_Model_offer_1 (by decide) ?_
  refine lv_iconst (v := 5) hx hb d_Model_offer_2 (by decide) ?_
  refine none_i C hP hD hS (runS (As := [.int x1, .int 0, .int 5]) (rest := []) C nilP nilD (m_Model_within N   x1 0 5  _ h H.size) kw_991 kw_992 kw_12 kw_993 (hd_Model_within).2 ⟨Nat.le_of_ble_eq_true rfl, Nat.le_of_ble_eq_true rfl⟩ ⟨Nat.le_of_ble_eq_true rfl, Nat.le_of_ble_eq_true rfl⟩ rfl hl.1 (Nat.le_of_ble_eq_true rfl) d_Model_offer_3) (fun r2 u1 H locs h hP hD hS => ?_)
  try dsimp only at h
  refine lv_if_eq (tgt := 52) hx hb d_Model_offer_6 (by decide) (fun c3 => ?_) (fun c3 => ?_)
  · replace h := h.1 c3
    exact t_Model_offer_52 C N post (wp_Model_offer_53 N post) (t_Model_offer_53 C N post) x1 x2 x3 x4 x5 μ _ _ _ hP hD hS (lv_sub hl [0, 1, 2, 3, 4, 5] rfl) h
  · replace h := h.2 c3
    refine lv_iload_n hx hb d_Model_offer_9 rfl (lv_at hl 2 rfl) ?_
    refine lv_iconst (v := 0) hx hb d_Model_offer_10 (by decide) ?_
    refine lv_iconst (v := 3) hx hb d_Model_offer_11 (by decide) ?_
    refine none_i C hP hD hS (runS (As := [.int x2, .int 0, .int 3]) (rest := []) C nilP nilD (m_Model_within N   x2 0 3  _ h H.size) kw_991 kw_992 kw_12 kw_993 (hd_Model_within).2 ⟨Nat.le_of_ble_eq_true rfl, Nat.le_of_ble_eq_true rfl⟩ ⟨Nat.le_of_ble_eq_true rfl, Nat.le_of_ble_eq_true rfl⟩ rfl hl.1 (Nat.le_of_ble_eq_true rfl) d_Model_offer_12) (fun r5 u4 H locs h hP hD hS => ?_)
    try dsimp only at h
    refine lv_if_eq (tgt := 52) hx hb d_Model_offer_15 (by decide) (fun c6 => ?_) (fun c6 => ?_)
    · replace h := h.1 c6
      exact t_Model_offer_52 C N post (wp_Model_offer_53 N post) (t_Model_offer_53 C N post) x1 x2 x3 x4 x5 μ _ _ _ hP hD hS (lv_sub hl [0, 1, 2, 3, 4, 5] rfl) h
    · replace h := h.2 c6
      refine lv_iload_n hx hb d_Model_offer_18 rfl (lv_at hl 3 rfl) ?_
      refine lv_iconst (v := 2) hx hb d_Model_offer_19 (by decide) ?_
      refine lv_iconst (v := 4) hx hb d_Model_offer_20 (by decide) ?_
      refine none_i C hP hD hS (runS (As := [.int x3, .int 2, .int 4]) (rest := []) C nilP nilD (m_Model_within N   x3 2 4  _ h H.size) kw_991 kw_992 kw_12 kw_993 (hd_Model_within).2 ⟨Nat.le_of_ble_eq_true rfl, Nat.le_of_ble_eq_true rfl⟩ ⟨Nat.le_of_ble_eq_true rfl, Nat.le_of_ble_eq_true rfl⟩ rfl hl.1 (Nat.le_of_ble_eq_true rfl) d_Model_offer_21) (fun r8 u7 H locs h hP hD hS => ?_)
      try dsimp only at h
      refine lv_if_eq (tgt := 52) hx hb d_Model_offer_24 (by decide) (fun c9 => ?_) (fun c9 => ?_)
      · replace h := h.1 c9
        exact t_Model_offer_52 C N post (wp_Model_offer_53 N post) (t_Model_offer_53 C N post) x1 x2 x3 x4 x5 μ _ _ _ hP hD hS (lv_sub hl [0, 1, 2, 3, 4, 5] rfl) h
      · replace h := h.2 c9
        refine lv_iload hx hb d_Model_offer_27 (lv_at hl 4 rfl) ?_
        refine lv_iconst (v := 0) hx hb d_Model_offer_29 (by decide) ?_
        refine lv_ldc (v := 400000) hx hb hown (hts _ kw_999) d_Model_offer_30 ?_
        refine none_i C hP hD hS (runS (As := [.int x4, .int 0, .int 400000]) (rest := []) C nilP nilD (m_Model_within N   x4 0 400000  _ h H.size) kw_991 kw_992 kw_12 kw_993 (hd_Model_within).2 ⟨Nat.le_of_ble_eq_true rfl, Nat.le_of_ble_eq_true rfl⟩ ⟨Nat.le_of_ble_eq_true rfl, Nat.le_of_ble_eq_true rfl⟩ rfl hl.1 (Nat.le_of_ble_eq_true rfl) d_Model_offer_32) (fun r11 u10 H locs h hP hD hS => ?_)
        try dsimp only at h
        refine lv_if_eq (tgt := 52) hx hb d_Model_offer_35 (by decide) (fun c12 => ?_) (fun c12 => ?_)
        · replace h := h.1 c12
          exact t_Model_offer_52 C N post (wp_Model_offer_53 N post) (t_Model_offer_53 C N post) x1 x2 x3 x4 x5 μ _ _ _ hP hD hS (lv_sub hl [0, 1, 2, 3, 4, 5] rfl) h
        · replace h := h.2 c12
          refine lv_iload hx hb d_Model_offer_38 (lv_at hl 5 rfl) ?_
          refine lv_iconst (v := 0) hx hb d_Model_offer_40 (by decide) ?_
          refine lv_iconst (v := 5) hx hb d_Model_offer_41 (by decide) ?_
          refine none_i C hP hD hS (runS (As := [.int x5, .int 0, .int 5]) (rest := []) C nilP nilD (m_Model_within N   x5 0 5  _ h H.size) kw_991 kw_992 kw_12 kw_993 (hd_Model_within).2 ⟨Nat.le_of_ble_eq_true rfl, Nat.le_of_ble_eq_true rfl⟩ ⟨Nat.le_of_ble_eq_true rfl, Nat.le_of_ble_eq_true rfl⟩ rfl hl.1 (Nat.le_of_ble_eq_true rfl) d_Model_offer_42) (fun r14 u13 H locs h hP hD hS => ?_)
          try dsimp only at h
          refine lv_if_eq (tgt := 52) hx hb d_Model_offer_45 (by decide) (fun c15 => ?_) (fun c15 => ?_)
          · replace h := h.1 c15
            exact t_Model_offer_52 C N post (wp_Model_offer_53 N post) (t_Model_offer_53 C N post) x1 x2 x3 x4 x5 μ _ _ _ hP hD hS (lv_sub hl [0, 1, 2, 3, 4, 5] rfl) h
          · replace h := h.2 c15
            refine lv_iconst (v := 1) hx hb d_Model_offer_48 (by decide) ?_
            refine lv_goto (tgt := 53) hx hb d_Model_offer_49 (by decide) ?_
            exact t_Model_offer_53 C N post x1 x2 x3 x4 x5 1 μ _ _ _ hP hD hS (lv_sub hl [0, 1, 2, 3, 4, 5] rfl) h
set_option maxHeartbeats 4000000 in
set_option maxRecDepth 100000 in
theorem t_Model_member_116 {p : Program} {l : Launch} {e : Env} {s : State} {m : MethodId} {args : Array Value} {below : List Frame} {meth : Method} {c : Code} {A : Nat → Prop} {D : va_G} {k : Nat → ClassId} {g : Nat → Nat} (C : Cx p s m args meth c D k "PromotionTillModel" b_Model_member 7 none A) (N : Nat) (post : ((St)) → Prop) :
    ∀ (y0 : Int32) (y1 : Int32) (μ : (St)) (H : Heap) (locs : List Loc) (ls : Array Slot), va_P D CL (wModel k g μ) H → va_D A (wModel k g μ) → va_S A s.heap H locs → lv_has ls 7 [] → wp_Model_member_116 N post y0 y1 μ → W p l e rm_Model_member s m args below meth c H locs 0 0 (MQ below (va_Qv post (fun (u : (St)) t => va_P D CL (wModel k g u) t.heap ∧ va_D A (wModel k g u)) A) args s rm_Model_member.cells rm_Model_member.slots A) (F0 m 116 ls [.int y0, .int y1, .ref (g 8)]) := by
  obtain ⟨hx, hb, hr, hlk, hml, hown, hts, hK, hA⟩ := id C
  intro y0 y1 μ H locs ls hP hD hS hl h
  unfold wp_Model_member_116 at h
  obtain ⟨hi17, h⟩ := h
  refine va_iast hx hb hK hP hD hS 8 0 rfl rfl hi17 d_Model_member_116 (fun H locs hP hD hS => ?_)
  obtain ⟨μ18, eμ18⟩ : ∃ z, z = s2 μ 7 (Int32.toNatClampNeg y1) y0 := ⟨_, rfl⟩
  replace hP : va_P D CL (wModel k g μ18) H := by rw [eμ18]; exact hP
  replace hD : va_D A (wModel k g μ18) := by rw [eμ18]; exact hD
  replace h := h μ18 eμ18
  exact ret_v (u := μ18) (wf := (fun u : (St) => wModel k g u)) C hP hD hS (Nat.zero_le _) (Nat.zero_le _) h d_Model_member_117
set_option maxHeartbeats 4000000 in
set_option maxRecDepth 100000 in
theorem t_Model_member_57 {p : Program} {l : Launch} {e : Env} {s : State} {m : MethodId} {args : Array Value} {below : List Frame} {meth : Method} {c : Code} {A : Nat → Prop} {D : va_G} {k : Nat → ClassId} {g : Nat → Nat} (C : Cx p s m args meth c D k "PromotionTillModel" b_Model_member 7 none A) (N : Nat) (post : ((St)) → Prop) :
    ∀ (x1 : Int32) (x2 : Int32) (x3 : Int32) (x4 : Int32) (y0 : Int32) (μ : (St)) (H : Heap) (locs : List Loc) (ls : Array Slot), va_P D CL (wModel k g μ) H → va_D A (wModel k g μ) → va_S A s.heap H locs → lv_has ls 7 [(0, .ref (g 0)), (1, .int x1), (2, .int x2), (3, .int x3), (4, .int x4)] → wp_Model_member_57 N post x1 x2 x3 x4 y0 μ → W p l e rm_Model_member s m args below meth c H locs 0 0 (MQ below (va_Qv post (fun (u : (St)) t => va_P D CL (wModel k g u) t.heap ∧ va_D A (wModel k g u)) A) args s rm_Model_member.cells rm_Model_member.slots A) (F0 m 57 ls [.int y0, .ref (g 0)]) := by
  obtain ⟨hx, hb, hr, hlk, hml, hown, hts, hK, hA⟩ := id C
  intro x1 x2 x3 x4 y0 μ H locs ls hP hD hS hl h
  unfold wp_Model_member_57 at h
  refine va_put (D := D) (ci := 8) (v := .int y0) (ty := .int) (C := R_Model) (T := F_Model) (N := 40) hx hb hts in_Model t_Model tt_Model n_Model hown hK hP hD hS 0 rfl rfl 39 (by decide) (hts _ kw_901) (fun _ h9 => h9) rfl (by decide +kernel) rfl rfl (Nat.le_of_ble_eq_true rfl) d_Model_member_57 (fun H locs hP hD hS => ?_)
  obtain ⟨μ12, eμ12⟩ : ∃ z, z = s2 μ 39 0 y0 := ⟨_, rfl⟩
  replace hP : va_P D CL (wModel k g μ12) H := by rw [eμ12]; exact hP
  replace hD : va_D A (wModel k g μ12) := by rw [eμ12]; exact hD
  replace h := h μ12 eμ12
  refine lv_aload_n hx hb d_Model_member_60 rfl (lv_at hl 0 rfl) ?_
  refine va_get (D := D) (ci := 8) (v := .int (μ12 39 0)) (C := R_Model) (T := F_Model) (N := 40) hx hb hts in_Model hown hK hP 0 rfl rfl 39 (by decide) (hts _ kw_901) (fun _ h9 => h9) rfl d_Model_member_61 ?_
  refine lv_if_eq (tgt := 68) hx hb d_Model_member_64 (by decide) (fun c13 => ?_) (fun c13 => ?_)
  · replace h := h.1 c13
    refine lv_iconst (v := 4) hx hb d_Model_member_68 (by decide) ?_
    refine lv_bipush (v := 72) hx hb d_Model_member_69 (by decide) ?_
    refine lv_iload_n hx hb d_Model_member_71 rfl (lv_at hl 1 rfl) ?_
    refine lv_iadd hx hb d_Model_member_72 ?_
    refine lv_imul hx hb d_Model_member_73 ?_
    refine lv_iload_n hx hb d_Model_member_74 rfl (lv_at hl 2 rfl) ?_
    refine lv_iadd hx hb d_Model_member_75 ?_
    refine lv_istore (lv' := [(6, .int ((4 * (72 + x1)) + x2)), (0, .ref (g 0)), (1, .int x1), (2, .int x2), (3, .int x3), (4, .int x4)]) hx hb d_Model_member_76 hl (by decide) rfl (fun ls hl => ?_)
    refine lv_aload_n hx hb d_Model_member_78 rfl (lv_at hl 1 rfl) ?_
    refine va_get (D := D) (ci := 8) (v := .ref (g 8)) (C := R_Model) (T := F_Model) (N := 40) hx hb hts in_Model hown hK hP 0 rfl rfl 7 (by decide) (hts _ kw_869) (fun _ h9 => h9) rfl d_Model_member_79 ?_
    refine lv_iload hx hb d_Model_member_82 (lv_at hl 0 rfl) ?_
    refine lv_iload hx hb d_Model_member_84 (lv_at hl 5 rfl) ?_
    refine lv_if_eq (tgt := 103) hx hb d_Model_member_86 (by decide) (fun c14 => ?_) (fun c14 => ?_)
    · replace h := h.1 c14
      refine lv_aload_n hx hb d_Model_member_103 rfl (lv_at hl 1 rfl) ?_
      refine va_get (D := D) (ci := 8) (v := .ref (g 8)) (C := R_Model) (T := F_Model) (N := 40) hx hb hts in_Model hown hK hP 0 rfl rfl 7 (by decide) (hts _ kw_869) (fun _ h9 => h9) rfl d_Model_member_104 ?_
      refine lv_iload hx hb d_Model_member_107 (lv_at hl 0 rfl) ?_
      obtain ⟨hi15, h⟩ := h
      refine va_iald hx hb hK hP 8 0 rfl rfl hi15 d_Model_member_109 ?_
      refine lv_iconst (v := 1) hx hb d_Model_member_110 (by decide) ?_
      refine lv_iload_n hx hb d_Model_member_111 rfl (lv_at hl 4 rfl) ?_
      refine lv_ishl hx hb d_Model_member_112 ?_
      refine lv_iconst (v := (-1)) hx hb d_Model_member_113 (by decide) ?_
      refine lv_ixor hx hb d_Model_member_114 ?_
      refine lv_iand hx hb d_Model_member_115 ?_
      exact t_Model_member_116 C N post ((μ12 7 (Int32.toNatClampNeg ((4 * (72 + x1)) + x2))) &&& ((1 <<< (x3 &&& 31)) ^^^ (-1))) ((4 * (72 + x1)) + x2) μ12 _ _ _ hP hD hS (lv_sub hl [] rfl) h
    · replace h := h.2 c14
      refine lv_aload_n hx hb d_Model_member_89 rfl (lv_at hl 1 rfl) ?_
      refine va_get (D := D) (ci := 8) (v := .ref (g 8)) (C := R_Model) (T := F_Model) (N := 40) hx hb hts in_Model hown hK hP 0 rfl rfl 7 (by decide) (hts _ kw_869) (fun _ h9 => h9) rfl d_Model_member_90 ?_
      refine lv_iload hx hb d_Model_member_93 (lv_at hl 0 rfl) ?_
      obtain ⟨hi16, h⟩ := h
      refine va_iald hx hb hK hP 8 0 rfl rfl hi16 d_Model_member_95 ?_
      refine lv_iconst (v := 1) hx hb d_Model_member_96 (by decide) ?_
      refine lv_iload_n hx hb d_Model_member_97 rfl (lv_at hl 4 rfl) ?_
      refine lv_ishl hx hb d_Model_member_98 ?_
      refine lv_ior hx hb d_Model_member_99 ?_
      refine lv_goto (tgt := 116) hx hb d_Model_member_100 (by decide) ?_
      exact t_Model_member_116 C N post ((μ12 7 (Int32.toNatClampNeg ((4 * (72 + x1)) + x2))) ||| (1 <<< (x3 &&& 31))) ((4 * (72 + x1)) + x2) μ12 _ _ _ hP hD hS (lv_sub hl [] rfl) h
  · replace h := h.2 c13
    exact ret_v (u := μ12) (wf := (fun u : (St) => wModel k g u)) C hP hD hS (Nat.zero_le _) (Nat.zero_le _) h d_Model_member_67
set_option maxHeartbeats 4000000 in
set_option maxRecDepth 100000 in
theorem t_Model_member_33 {p : Program} {l : Launch} {e : Env} {s : State} {m : MethodId} {args : Array Value} {below : List Frame} {meth : Method} {c : Code} {A : Nat → Prop} {D : va_G} {k : Nat → ClassId} {g : Nat → Nat} (C : Cx p s m args meth c D k "PromotionTillModel" b_Model_member 7 none A) (N : Nat) (post : ((St)) → Prop) :
    ∀ (x1 : Int32) (x2 : Int32) (x3 : Int32) (x4 : Int32) (y0 : Int32) (μ : (St)) (H : Heap) (locs : List Loc) (ls : Array Slot), va_P D CL (wModel k g μ) H → va_D A (wModel k g μ) → va_S A s.heap H locs → lv_has ls 7 [(0, .ref (g 0)), (1, .int x1), (2, .int x2), (3, .int x3), (4, .int x4)] → wp_Model_member_33 N post x1 x2 x3 x4 y0 μ → W p l e rm_Model_member s m args below meth c H locs 0 0 (MQ below (va_Qv post (fun (u : (St)) t => va_P D CL (wModel k g u) t.heap ∧ va_D A (wModel k g u)) A) args s rm_Model_member.cells rm_Model_member.slots A) (F0 m 33 ls [.int y0]) := by
  obtain ⟨hx, hb, hr, hlk, hml, hown, hts, hK, hA⟩ := id C
  intro x1 x2 x3 x4 y0 μ H locs ls hP hD hS hl h
  unfold wp_Model_member_33 at h
  refine lv_istore (lv' := [(5, .int y0), (0, .ref (g 0)), (1, .int x1), (2, .int x2), (3, .int x3), (4, .int x4)]) hx hb d_Model_member_33 hl (by decide) rfl (fun ls hl => ?_)
  refine lv_aload_n hx hb d_Model_member_35 rfl (lv_at hl 1 rfl) ?_
  refine lv_iload hx hb d_Model_member_36 (lv_at hl 0 rfl) ?_
  refine lv_if_ne (tgt := 45) hx hb d_Model_member_38 (by decide) (fun c10 => ?_) (fun c10 => ?_)
  · replace h := h.1 c10
    refine lv_aload_n hx hb d_Model_member_45 rfl (lv_at hl 1 rfl) ?_
    refine va_get (D := D) (ci := 8) (v := .int (μ 9 0)) (C := R_Model) (T := F_Model) (N := 40) hx hb hts in_Model hown hK hP 0 rfl rfl 9 (by decide) (hts _ kw_871) (fun _ h9 => h9) rfl d_Model_member_46 ?_
    refine lv_if_le (tgt := 56) hx hb d_Model_member_49 (by decide) (fun c11 => ?_) (fun c11 => ?_)
    · replace h := h.1 c11
      refine lv_iconst (v := 0) hx hb d_Model_member_56 (by decide) ?_
      exact t_Model_member_57 C N post x1 x2 x3 x4 0 μ _ _ _ hP hD hS (lv_sub hl [1, 2, 3, 4, 5] rfl) h
    · replace h := h.2 c11
      refine lv_iconst (v := 2) hx hb d_Model_member_52 (by decide) ?_
      refine lv_goto (tgt := 57) hx hb d_Model_member_53 (by decide) ?_
      exact t_Model_member_57 C N post x1 x2 x3 x4 2 μ _ _ _ hP hD hS (lv_sub hl [1, 2, 3, 4, 5] rfl) h
  · replace h := h.2 c10
    refine lv_iconst (v := 1) hx hb d_Model_member_41 (by decide) ?_
    refine lv_goto (tgt := 57) hx hb d_Model_member_42 (by decide) ?_
    exact t_Model_member_57 C N post x1 x2 x3 x4 1 μ _ _ _ hP hD hS (lv_sub hl [1, 2, 3, 4, 5] rfl) h
set_option maxHeartbeats 4000000 in
set_option maxRecDepth 100000 in
theorem t_Model_member_32 {p : Program} {l : Launch} {e : Env} {s : State} {m : MethodId} {args : Array Value} {below : List Frame} {meth : Method} {c : Code} {A : Nat → Prop} {D : va_G} {k : Nat → ClassId} {g : Nat → Nat} (C : Cx p s m args meth c D k "PromotionTillModel" b_Model_member 7 none A) (N : Nat) (post : ((St)) → Prop) (K_33 : Int32 → Int32 → Int32 → Int32 → Int32 → (St) → Prop) (hK_33 : ∀ (x1 : Int32) (x2 : Int32) (x3 : Int32) (x4 : Int32) (y0 : Int32) (μ : (St)) (H : Heap) (locs : List Loc) (ls : Array Slot), va_P D CL (wModel k g μ) H → va_D A (wModel k g μ) → va_S A s.heap H locs → lv_has ls 7 [(0, .ref (g 0)), (1, .int x1), (2, .int x2), (3, .int x3), (4, .int x4)] → K_33 x1 x2 x3 x4 y0 μ → W p l e rm_Model_member s m args below meth c H locs 0 0 (MQ below (va_Qv post (fun (u : (St)) t => va_P D CL (wModel k g u) t.heap ∧ va_D A (wModel k g u)) A) args s rm_Model_member.cells rm_Model_member.slots A) (F0 m 33 ls [.int y0])) :
    ∀ (x1 : Int32) (x2 : Int32) (x3 : Int32) (x4 : Int32) (μ : (St)) (H : Heap) (locs : List Loc) (ls : Array Slot), va_P D CL (wModel k g μ) H → va_D A (wModel k g μ) → va_S A s.heap H locs → lv_has ls 7 [(0, .ref (g 0)), (1, .int x1), (2, .int x2), (3, .int x3), (4, .int x4)] → wp_Model_member_32 N post K_33 x1 x2 x3 x4 μ → W p l e rm_Model_member s m args below meth c H locs 0 0 (MQ below (va_Qv post (fun (u : (St)) t => va_P D CL (wModel k g u) t.heap ∧ va_D A (wModel k g u)) A) args s rm_Model_member.cells rm_Model_member.slots A) (F0 m 32 ls []) := by
  obtain ⟨hx, hb, hr, hlk, hml, hown, hts, hK, hA⟩ := id C
  intro x1 x2 x3 x4 μ H locs ls hP hD hS hl h
  unfold wp_Model_member_32 at h
  refine lv_iconst (v := 0) hx hb d_Model_member_32 (by decide) ?_
  exact hK_33 x1 x2 x3 x4 0 μ _ _ _ hP hD hS (lv_sub hl [0, 1, 2, 3, 4] rfl) h
set_option maxHeartbeats 4000000 in
set_option maxRecDepth 100000 in
theorem m_Model_member {l : Launch} {D : va_G} {k : Nat → ClassId} (N : Nat) (g : Nat → Nat) (μ : St) (x1 : Int32) (x2 : Int32) (x3 : Int32) (x4 : Int32) (post : ((St)) → Prop) (h : wp_Model_member N  μ x1 x2 x3 x4 post) : Cv l D k y_Model_member b_Model_member 7 rm_Model_member [.ref (g 0), .int x1, .int x2, .int x3, .int x4] (wModel k g μ) (fun u : (St) => wModel k g u) post := by
  refine Cv.of (by decide) (Nat.le_of_ble_eq_true rfl) ?_
  intro p e s m below meth c A H locs ls C hP hD hS hl
  obtain ⟨hx, hb, hr, hlk, hml, hown, hts, hK, hA⟩ := id C
  replace hl : lv_has ls 7 [(0, .ref (g 0)), (1, .int x1), (2, .int x2), (3, .int x3), (4, .int x4)] := hl
  unfold wp_Model_member at h
  refine lv_iload_n hx hb d_Model_member_0 rfl (lv_at hl 1 rfl) ?_
  refine lv_iconst (v := 0) hx hb d_Model_member_1 (by decide) ?_
  refine lv_iconst (v := 5) hx hb d_Model_member_2 (by decide) ?_
  refine none_i C hP hD hS (runS (As := [.int x1, .int 0, .int 5]) (rest := []) C nilP nilD (m_Model_within N   x1 0 5  _ h H.size) kw_991 kw_992 kw_12 kw_993 (hd_Model_within).2 ⟨Nat.le_of_ble_eq_true rfl, Nat.le_of_ble_eq_true rfl⟩ ⟨Nat.le_of_ble_eq_true rfl, Nat.le_of_ble_eq_true rfl⟩ rfl hl.1 (Nat.le_of_ble_eq_true rfl) d_Model_member_3) (fun r2 u1 H locs h hP hD hS => ?_)
  try dsimp only at h
  refine lv_if_eq (tgt := 32) hx hb d_Model_member_6 (by decide) (fun c3 => ?_) (fun c3 => ?_)
  · replace h := h.1 c3
    exact t_Model_member_32 C N post (wp_Model_member_33 N post) (t_Model_member_33 C N post) x1 x2 x3 x4 μ _ _ _ hP hD hS (lv_sub hl [0, 1, 2, 3, 4] rfl) h
  · replace h := h.2 c3
    refine lv_iload_n hx hb d_Model_member_9 rfl (lv_at hl 2 rfl) ?_
    refine lv_iconst (v := 0) hx hb d_Model_member_10 (by decide) ?_
    refine lv_iconst (v := 3) hx hb d_Model_member_11 (by decide) ?_
    refine none_i C hP hD hS (runS (As := [.int x2, .int 0, .int 3]) (rest := []) C nilP nilD (m_Model_within N   x2 0 3  _ h H.size) kw_991 kw_992 kw_12 kw_993 (hd_Model_within).2 ⟨Nat.le_of_ble_eq_true rfl, Nat.le_of_ble_eq_true rfl⟩ ⟨Nat.le_of_ble_eq_true rfl, Nat.le_of_ble_eq_true rfl⟩ rfl hl.1 (Nat.le_of_ble_eq_true rfl) d_Model_member_12) (fun r5 u4 H locs h hP hD hS => ?_)
    try dsimp only at h
    refine lv_if_eq (tgt := 32) hx hb d_Model_member_15 (by decide) (fun c6 => ?_) (fun c6 => ?_)
    · replace h := h.1 c6
      exact t_Model_member_32 C N post (wp_Model_member_33 N post) (t_Model_member_33 C N post) x1 x2 x3 x4 μ _ _ _ hP hD hS (lv_sub hl [0, 1, 2, 3, 4] rfl) h
    · replace h := h.2 c6
      refine lv_iload_n hx hb d_Model_member_18 rfl (lv_at hl 3 rfl) ?_
      refine lv_iconst (v := 0) hx hb d_Model_member_19 (by decide) ?_
      refine lv_bipush (v := 11) hx hb d_Model_member_20 (by decide) ?_
      refine none_i C hP hD hS (runS (As := [.int x3, .int 0, .int 11]) (rest := []) C nilP nilD (m_Model_within N   x3 0 11  _ h H.size) kw_991 kw_992 kw_12 kw_993 (hd_Model_within).2 ⟨Nat.le_of_ble_eq_true rfl, Nat.le_of_ble_eq_true rfl⟩ ⟨Nat.le_of_ble_eq_true rfl, Nat.le_of_ble_eq_true rfl⟩ rfl hl.1 (Nat.le_of_ble_eq_true rfl) d_Model_member_22) (fun r8 u7 H locs h hP hD hS => ?_)
      try dsimp only at h
      refine lv_if_eq (tgt := 32) hx hb d_Model_member_25 (by decide) (fun c9 => ?_) (fun c9 => ?_)
      · replace h := h.1 c9
        exact t_Model_member_32 C N post (wp_Model_member_33 N post) (t_Model_member_33 C N post) x1 x2 x3 x4 μ _ _ _ hP hD hS (lv_sub hl [0, 1, 2, 3, 4] rfl) h
      · replace h := h.2 c9
        refine lv_iconst (v := 1) hx hb d_Model_member_28 (by decide) ?_
        refine lv_goto (tgt := 33) hx hb d_Model_member_29 (by decide) ?_
        exact t_Model_member_33 C N post x1 x2 x3 x4 1 μ _ _ _ hP hD hS (lv_sub hl [0, 1, 2, 3, 4] rfl) h
set_option maxHeartbeats 4000000 in
set_option maxRecDepth 100000 in
theorem t_Model_run_26 {p : Program} {l : Launch} {e : Env} {s : State} {m : MethodId} {args : Array Value} {below : List Frame} {meth : Method} {c : Code} {A : Nat → Prop} {D : va_G} {k : Nat → ClassId} {g : Nat → Nat} (C : Cx p s m args meth c D k "PromotionTillModel" b_Model_run 3 none A) (N : Nat) (post : ((St)) → Prop) :
    ∀ (x1 : Int32) (x2 : Int32) (y0 : Int32) (μ : (St)) (H : Heap) (locs : List Loc) (ls : Array Slot), va_P D CL (wModel k g μ) H → va_D A (wModel k g μ) → va_S A s.heap H locs → lv_has ls 3 [(0, .ref (g 0)), (1, .int x1), (2, .int x2)] → wp_Model_run_26 N post x1 x2 y0 μ → W p l e rm_Model_run s m args below meth c H locs 0 0 (MQ below (va_Qv post (fun (u : (St)) t => va_P D CL (wModel k g u) t.heap ∧ va_D A (wModel k g u)) A) args s rm_Model_run.cells rm_Model_run.slots A) (F0 m 26 ls [.int y0, .ref (g 0)]) := by
  obtain ⟨hx, hb, hr, hlk, hml, hown, hts, hK, hA⟩ := id C
  intro x1 x2 y0 μ H locs ls hP hD hS hl h
  unfold wp_Model_run_26 at h
  refine va_put (D := D) (ci := 8) (v := .int y0) (ty := .int) (C := R_Model) (T := F_Model) (N := 40) hx hb hts in_Model t_Model tt_Model n_Model hown hK hP hD hS 0 rfl rfl 39 (by decide) (hts _ kw_901) (fun _ h9 => h9) rfl (by decide +kernel) rfl rfl (Nat.le_of_ble_eq_true rfl) d_Model_run_26 (fun H locs hP hD hS => ?_)
  obtain ⟨μ5, eμ5⟩ : ∃ z, z = s2 μ 39 0 y0 := ⟨_, rfl⟩
  replace hP : va_P D CL (wModel k g μ5) H := by rw [eμ5]; exact hP
  replace hD : va_D A (wModel k g μ5) := by rw [eμ5]; exact hD
  replace h := h μ5 eμ5
  refine lv_aload_n hx hb d_Model_run_29 rfl (lv_at hl 0 rfl) ?_
  refine va_get (D := D) (ci := 8) (v := .int (μ5 39 0)) (C := R_Model) (T := F_Model) (N := 40) hx hb hts in_Model hown hK hP 0 rfl rfl 39 (by decide) (hts _ kw_901) (fun _ h9 => h9) rfl d_Model_run_30 ?_
  refine lv_if_ne (tgt := 46) hx hb d_Model_run_33 (by decide) (fun c6 => ?_) (fun c6 => ?_)
  · replace h := h.1 c6
    exact ret_v (u := μ5) (wf := (fun u : (St) => wModel k g u)) C hP hD hS (Nat.zero_le _) (Nat.zero_le _) h d_Model_run_46
  · replace h := h.2 c6
    refine lv_aload_n hx hb d_Model_run_36 rfl (lv_at hl 0 rfl) ?_
    refine va_get (D := D) (ci := 8) (v := .ref (g 7)) (C := R_Model) (T := F_Model) (N := 40) hx hb hts in_Model hown hK hP 0 rfl rfl 6 (by decide) (hts _ kw_868) (fun _ h9 => h9) rfl d_Model_run_37 ?_
    refine lv_bipush (v := 72) hx hb d_Model_run_40 (by decide) ?_
    refine lv_iload_n hx hb d_Model_run_42 rfl (lv_at hl 1 rfl) ?_
    refine lv_iadd hx hb d_Model_run_43 ?_
    refine lv_iload_n hx hb d_Model_run_44 rfl (lv_at hl 2 rfl) ?_
    obtain ⟨hi7, h⟩ := h
    refine va_zast hx hb hK hP hD hS 7 1 rfl rfl hi7 d_Model_run_45 (fun H locs hP hD hS => ?_)
    obtain ⟨μ8, eμ8⟩ : ∃ z, z = s2 μ5 6 (Int32.toNatClampNeg (72 + x1)) (vp_nar .boolean x2) := ⟨_, rfl⟩
    replace hP : va_P D CL (wModel k g μ8) H := by rw [eμ8]; exact hP
    replace hD : va_D A (wModel k g μ8) := by rw [eμ8]; exact hD
    replace h := h μ8 eμ8
    exact ret_v (u := μ8) (wf := (fun u : (St) => wModel k g u)) C hP hD hS (Nat.zero_le _) (Nat.zero_le _) h d_Model_run_46
set_option maxHeartbeats 4000000 in
set_option maxRecDepth 100000 in
theorem m_Model_run {l : Launch} {D : va_G} {k : Nat → ClassId} (N : Nat) (g : Nat → Nat) (μ : St) (x1 : Int32) (x2 : Int32) (post : ((St)) → Prop) (h : wp_Model_run N  μ x1 x2 post) : Cv l D k y_Model_run b_Model_run 3 rm_Model_run [.ref (g 0), .int x1, .int x2] (wModel k g μ) (fun u : (St) => wModel k g u) post := by
  refine Cv.of (by decide) (Nat.le_of_ble_eq_true rfl) ?_
  intro p e s m below meth c A H locs ls C hP hD hS hl
  obtain ⟨hx, hb, hr, hlk, hml, hown, hts, hK, hA⟩ := id C
  replace hl : lv_has ls 3 [(0, .ref (g 0)), (1, .int x1), (2, .int x2)] := hl
  unfold wp_Model_run at h
  refine lv_aload_n hx hb d_Model_run_0 rfl (lv_at hl 0 rfl) ?_
  refine lv_iload_n hx hb d_Model_run_1 rfl (lv_at hl 1 rfl) ?_
  refine lv_iconst (v := 0) hx hb d_Model_run_2 (by decide) ?_
  refine lv_iconst (v := 5) hx hb d_Model_run_3 (by decide) ?_
  refine none_i C hP hD hS (runS (As := [.int x1, .int 0, .int 5]) (rest := [.ref (g 0)]) C nilP nilD (m_Model_within N   x1 0 5  _ h H.size) kw_991 kw_992 kw_12 kw_993 (hd_Model_within).2 ⟨Nat.le_of_ble_eq_true rfl, Nat.le_of_ble_eq_true rfl⟩ ⟨Nat.le_of_ble_eq_true rfl, Nat.le_of_ble_eq_true rfl⟩ rfl hl.1 (Nat.le_of_ble_eq_true rfl) d_Model_run_4) (fun r2 u1 H locs h hP hD hS => ?_)
  try dsimp only at h
  refine lv_if_ne (tgt := 14) hx hb d_Model_run_7 (by decide) (fun c3 => ?_) (fun c3 => ?_)
  · replace h := h.1 c3
    refine lv_aload_n hx hb d_Model_run_14 rfl (lv_at hl 0 rfl) ?_
    refine va_get (D := D) (ci := 8) (v := .int (μ 9 0)) (C := R_Model) (T := F_Model) (N := 40) hx hb hts in_Model hown hK hP 0 rfl rfl 9 (by decide) (hts _ kw_871) (fun _ h9 => h9) rfl d_Model_run_15 ?_
    refine lv_if_le (tgt := 25) hx hb d_Model_run_18 (by decide) (fun c4 => ?_) (fun c4 => ?_)
    · replace h := h.1 c4
      refine lv_iconst (v := 0) hx hb d_Model_run_25 (by decide) ?_
      exact t_Model_run_26 C N post x1 x2 0 μ _ _ _ hP hD hS (lv_sub hl [0, 1, 2] rfl) h
    · replace h := h.2 c4
      refine lv_iconst (v := 2) hx hb d_Model_run_21 (by decide) ?_
      refine lv_goto (tgt := 26) hx hb d_Model_run_22 (by decide) ?_
      exact t_Model_run_26 C N post x1 x2 2 μ _ _ _ hP hD hS (lv_sub hl [0, 1, 2] rfl) h
  · replace h := h.2 c3
    refine lv_iconst (v := 1) hx hb d_Model_run_10 (by decide) ?_
    refine lv_goto (tgt := 26) hx hb d_Model_run_11 (by decide) ?_
    exact t_Model_run_26 C N post x1 x2 1 μ _ _ _ hP hD hS (lv_sub hl [0, 1, 2] rfl) h
set_option maxHeartbeats 4000000 in
set_option maxRecDepth 100000 in
theorem m_Model_lengthOf {l : Launch} {D : va_G} {k : Nat → ClassId} (N : Nat) (g : Nat → Nat) (μ : St) (x1 : Int32) (post : Int32 → (Unit) → Prop) (h : wp_Model_lengthOf N  μ x1 post) : Ci l D k y_Model_lengthOf b_Model_lengthOf 2 .int rm_Model_lengthOf [.ref (g 0), .int x1] (wModel k g μ) (fun u : Unit => wModel k g μ) post := by
  refine Ci.of (by decide) (Nat.le_of_ble_eq_true rfl) ?_
  intro p e s m below meth c A H locs ls C hP hD hS hl
  obtain ⟨hx, hb, hr, hlk, hml, hown, hts, hK, hA⟩ := id C
  replace hl : lv_has ls 2 [(0, .ref (g 0)), (1, .int x1)] := hl
  unfold wp_Model_lengthOf at h
  refine lv_aload_n hx hb d_Model_lengthOf_0 rfl (lv_at hl 0 rfl) ?_
  refine va_get (D := D) (ci := 8) (v := .ref (g 3)) (C := R_Model) (T := F_Model) (N := 40) hx hb hts in_Model hown hK hP 0 rfl rfl 2 (by decide) (hts _ kw_864) (fun _ h9 => h9) rfl d_Model_lengthOf_1 ?_
  refine lv_iload_n hx hb d_Model_lengthOf_4 rfl (lv_at hl 1 rfl) ?_
  obtain ⟨hi1, h⟩ := h
  refine va_iald hx hb hK hP 3 0 rfl rfl hi1 d_Model_lengthOf_5 ?_
  refine lv_iconst (v := 3) hx hb d_Model_lengthOf_6 (by decide) ?_
  refine lv_icmp_ne (tgt := 14) hx hb d_Model_lengthOf_7 (by decide) (fun c2 => ?_) (fun c2 => ?_)
  · replace h := h.1 c2
    refine lv_aload_n hx hb d_Model_lengthOf_14 rfl (lv_at hl 0 rfl) ?_
    refine va_get (D := D) (ci := 8) (v := .ref (g 4)) (C := R_Model) (T := F_Model) (N := 40) hx hb hts in_Model hown hK hP 0 rfl rfl 3 (by decide) (hts _ kw_865) (fun _ h9 => h9) rfl d_Model_lengthOf_15 ?_
    refine lv_iload_n hx hb d_Model_lengthOf_18 rfl (lv_at hl 1 rfl) ?_
    obtain ⟨hi3, h⟩ := h
    refine va_iald hx hb hK hP 4 0 rfl rfl hi3 d_Model_lengthOf_19 ?_
    exact ret_i (u := ()) (wf := (fun u : Unit => wModel k g μ)) C hP hD hS (Nat.zero_le _) (Nat.zero_le _) h d_Model_lengthOf_20
  · replace h := h.2 c2
    refine lv_iconst (v := 2) hx hb d_Model_lengthOf_10 (by decide) ?_
    refine lv_goto (tgt := 20) hx hb d_Model_lengthOf_11 (by decide) ?_
    exact ret_i (u := ()) (wf := (fun u : Unit => wModel k g μ)) C hP hD hS (Nat.zero_le _) (Nat.zero_le _) h d_Model_lengthOf_20
set_option maxHeartbeats 4000000 in
set_option maxRecDepth 100000 in
theorem t_Model_setOf_22 {p : Program} {l : Launch} {e : Env} {s : State} {m : MethodId} {args : Array Value} {below : List Frame} {meth : Method} {c : Code} {A : Nat → Prop} {D : va_G} {k : Nat → ClassId} {g : Nat → Nat} (C : Cx p s m args meth c D k "PromotionTillModel" b_Model_setOf 3 (some .int) A) (N : Nat) (μ : St) (post : Int32 → (Unit) → Prop) :
    ∀ (y0 : Int32) (y1 : Int32) (H : Heap) (locs : List Loc) (ls : Array Slot), va_P D CL (wModel k g μ) H → va_D A (wModel k g μ) → va_S A s.heap H locs → lv_has ls 3 [] → wp_Model_setOf_22 N μ post y0 y1 → W p l e rm_Model_setOf s m args below meth c H locs 0 0 (MQ below (va_Qi post (fun (u : Unit) t => va_P D CL (wModel k g μ) t.heap ∧ va_D A (wModel k g μ)) A) args s rm_Model_setOf.cells rm_Model_setOf.slots A) (F0 m 22 ls [.int y0, .int y1, .ref (g 8)]) := by
  obtain ⟨hx, hb, hr, hlk, hml, hown, hts, hK, hA⟩ := id C
  intro y0 y1 H locs ls hP hD hS hl h
  unfold wp_Model_setOf_22 at h
  refine lv_iadd hx hb d_Model_setOf_22 ?_
  obtain ⟨hi3, h⟩ := h
  refine va_iald hx hb hK hP 8 0 rfl rfl hi3 d_Model_setOf_23 ?_
  exact ret_i (u := ()) (wf := (fun u : Unit => wModel k g μ)) C hP hD hS (Nat.zero_le _) (Nat.zero_le _) h d_Model_setOf_24
set_option maxHeartbeats 4000000 in
set_option maxRecDepth 100000 in
theorem m_Model_setOf {l : Launch} {D : va_G} {k : Nat → ClassId} (N : Nat) (g : Nat → Nat) (μ : St) (x1 : Int32) (x2 : Int32) (post : Int32 → (Unit) → Prop) (h : wp_Model_setOf N  μ x1 x2 post) : Ci l D k y_Model_setOf b_Model_setOf 3 .int rm_Model_setOf [.ref (g 0), .int x1, .int x2] (wModel k g μ) (fun u : Unit => wModel k g μ) post := by
  refine Ci.of (by decide) (Nat.le_of_ble_eq_true rfl) ?_
  intro p e s m below meth c A H locs ls C hP hD hS hl
  obtain ⟨hx, hb, hr, hlk, hml, hown, hts, hK, hA⟩ := id C
  replace hl : lv_has ls 3 [(0, .ref (g 0)), (1, .int x1), (2, .int x2)] := hl
  unfold wp_Model_setOf at h
  refine lv_aload_n hx hb d_Model_setOf_0 rfl (lv_at hl 0 rfl) ?_
  refine va_get (D := D) (ci := 8) (v := .ref (g 8)) (C := R_Model) (T := F_Model) (N := 40) hx hb hts in_Model hown hK hP 0 rfl rfl 7 (by decide) (hts _ kw_869) (fun _ h9 => h9) rfl d_Model_setOf_1 ?_
  refine lv_iconst (v := 4) hx hb d_Model_setOf_4 (by decide) ?_
  refine lv_iload_n hx hb d_Model_setOf_5 rfl (lv_at hl 1 rfl) ?_
  refine lv_imul hx hb d_Model_setOf_6 ?_
  refine lv_aload_n hx hb d_Model_setOf_7 rfl (lv_at hl 0 rfl) ?_
  refine va_get (D := D) (ci := 8) (v := .ref (g 3)) (C := R_Model) (T := F_Model) (N := 40) hx hb hts in_Model hown hK hP 0 rfl rfl 2 (by decide) (hts _ kw_864) (fun _ h9 => h9) rfl d_Model_setOf_8 ?_
  refine lv_iload_n hx hb d_Model_setOf_11 rfl (lv_at hl 1 rfl) ?_
  obtain ⟨hi1, h⟩ := h
  refine va_iald hx hb hK hP 3 0 rfl rfl hi1 d_Model_setOf_12 ?_
  refine lv_iconst (v := 2) hx hb d_Model_setOf_13 (by decide) ?_
  refine lv_icmp_ne (tgt := 21) hx hb d_Model_setOf_14 (by decide) (fun c2 => ?_) (fun c2 => ?_)
  · replace h := h.1 c2
    refine lv_iconst (v := 0) hx hb d_Model_setOf_21 (by decide) ?_
    exact t_Model_setOf_22 C N μ post 0 (4 * x1) _ _ _ hP hD hS (lv_sub hl [] rfl) h
  · replace h := h.2 c2
    refine lv_iload_n hx hb d_Model_setOf_17 rfl (lv_at hl 2 rfl) ?_
    refine lv_goto (tgt := 22) hx hb d_Model_setOf_18 (by decide) ?_
    exact t_Model_setOf_22 C N μ post x2 (4 * x1) _ _ _ hP hD hS (lv_sub hl [] rfl) h
set_option maxHeartbeats 4000000 in
set_option maxRecDepth 100000 in
theorem t_Model_looked_4 {p : Program} {l : Launch} {e : Env} {s : State} {m : MethodId} {args : Array Value} {below : List Frame} {meth : Method} {c : Code} {A : Nat → Prop} {D : va_G} {k : Nat → ClassId} {g : Nat → Nat} (C : Cx p s m args meth c D k "PromotionTillModel" b_Model_looked 4 (some .int) A) (N : Nat) (μ : St) (post : Int32 → (Unit) → Prop) :
    ∀ (n : Nat) (x1 : Int32) (x2 : Int32) (x3 : Int32) (H : Heap) (locs : List Loc) (ls : Array Slot), va_P D CL (wModel k g μ) H → va_D A (wModel k g μ) → va_S A s.heap H locs → lv_has ls 4 [(0, .ref (g 0)), (1, .int x1), (2, .int x2), (3, .int x3)] → wp_Model_looked_4 N μ post n x1 x2 x3 → W p l e rm_Model_looked s m args below meth c H locs 0 0 (MQ below (va_Qi post (fun (u : Unit) t => va_P D CL (wModel k g μ) t.heap ∧ va_D A (wModel k g μ)) A) args s rm_Model_looked.cells rm_Model_looked.slots A) (F0 m 4 ls []) := by
  obtain ⟨hx, hb, hr, hlk, hml, hown, hts, hK, hA⟩ := id C
  intro n
  induction n with
  | zero =>
    intro x1 x2 x3 H locs ls hP hD hS hl h
    exact absurd h (by simp [wp_Model_looked_4])
  | succ n ih =>
    intro x1 x2 x3 H locs ls hP hD hS hl h
    rw [wp_Model_looked_4] at h
    refine lv_iload_n hx hb d_Model_looked_4 rfl (lv_at hl 3 rfl) ?_
    refine lv_aload_n hx hb d_Model_looked_5 rfl (lv_at hl 0 rfl) ?_
    refine lv_iload_n hx hb d_Model_looked_6 rfl (lv_at hl 1 rfl) ?_
    refine same_i C hP hD hS (runV (As := [.int x1]) (rest := [.int x3]) C hP hD (m_Model_lengthOf N g μ x1  _ h H.size) kw_1028 kw_1030 kp_29 kw_12 kw_1031 hd_Model_lengthOf ⟨Nat.le_of_ble_eq_true rfl, Nat.le_of_ble_eq_true rfl⟩ ⟨Nat.le_of_ble_eq_true rfl, Nat.le_of_ble_eq_true rfl⟩ 0 rfl rfl rfl rfl hl.1 (Nat.le_of_ble_eq_true rfl) d_Model_looked_7) (fun r2 u1 H locs h hP hD hS => ?_)
    replace hP : va_P D CL (wModel k g μ) H := hP
    replace hD : va_D A (wModel k g μ) := hD
    try dsimp only at h
    refine lv_icmp_ge (tgt := 28) hx hb d_Model_looked_10 (by decide) (fun c3 => ?_) (fun c3 => ?_)
    · replace h := h.1 c3
      refine lv_iload_n hx hb d_Model_looked_28 rfl (lv_at hl 2 rfl) ?_
      exact ret_i (u := ()) (wf := (fun u : Unit => wModel k g μ)) C hP hD hS (Nat.zero_le _) (Nat.zero_le _) h d_Model_looked_29
    · replace h := h.2 c3
      refine lv_iload_n hx hb d_Model_looked_13 rfl (lv_at hl 2 rfl) ?_
      refine lv_aload_n hx hb d_Model_looked_14 rfl (lv_at hl 0 rfl) ?_
      refine lv_iload_n hx hb d_Model_looked_15 rfl (lv_at hl 1 rfl) ?_
      refine lv_iload_n hx hb d_Model_looked_16 rfl (lv_at hl 3 rfl) ?_
      refine same_i C hP hD hS (runV (As := [.int x1, .int x3]) (rest := [.int x2]) C hP hD (m_Model_setOf N g μ x1 x3  _ h H.size) kw_1032 kw_1034 kp_30 kw_12 kw_1035 hd_Model_setOf ⟨Nat.le_of_ble_eq_true rfl, Nat.le_of_ble_eq_true rfl⟩ ⟨Nat.le_of_ble_eq_true rfl, Nat.le_of_ble_eq_true rfl⟩ 0 rfl rfl rfl rfl hl.1 (Nat.le_of_ble_eq_true rfl) d_Model_looked_17) (fun r5 u4 H locs h hP hD hS => ?_)
      replace hP : va_P D CL (wModel k g μ) H := hP
      replace hD : va_D A (wModel k g μ) := hD
      try dsimp only at h
      refine lv_ior hx hb d_Model_looked_20 ?_
      refine lv_istore_n (lv' := [(2, .int (x2 ||| r5)), (0, .ref (g 0)), (1, .int x1), (3, .int x3)]) hx hb d_Model_looked_21 rfl hl (by decide) rfl (fun ls hl => ?_)
      refine lv_iinc (v := x3 + 1) (lv' := [(3, .int (x3 + 1)), (2, .int (x2 ||| r5)), (0, .ref (g 0)), (1, .int x1)]) hx hb d_Model_looked_22 hl (k := 3) rfl rfl (by decide) rfl (fun ls hl => ?_)
      refine lv_goto (tgt := 4) hx hb d_Model_looked_25 (by decide) ?_
      exact ih x1 (x2 ||| r5) (x3 + 1) _ _ _ hP hD hS (lv_sub hl [2, 3, 1, 0] rfl) h
set_option maxHeartbeats 4000000 in
set_option maxRecDepth 100000 in
theorem m_Model_looked {l : Launch} {D : va_G} {k : Nat → ClassId} (N : Nat) (g : Nat → Nat) (μ : St) (x1 : Int32) (post : Int32 → (Unit) → Prop) (h : wp_Model_looked N  μ x1 post) : Ci l D k y_Model_looked b_Model_looked 4 .int rm_Model_looked [.ref (g 0), .int x1] (wModel k g μ) (fun u : Unit => wModel k g μ) post := by
  refine Ci.of (by decide) (Nat.le_of_ble_eq_true rfl) ?_
  intro p e s m below meth c A H locs ls C hP hD hS hl
  obtain ⟨hx, hb, hr, hlk, hml, hown, hts, hK, hA⟩ := id C
  replace hl : lv_has ls 4 [(0, .ref (g 0)), (1, .int x1)] := hl
  unfold wp_Model_looked at h
  refine lv_iconst (v := 0) hx hb d_Model_looked_0 (by decide) ?_
  refine lv_istore_n (lv' := [(2, .int 0), (0, .ref (g 0)), (1, .int x1)]) hx hb d_Model_looked_1 rfl hl (by decide) rfl (fun ls hl => ?_)
  refine lv_iconst (v := 0) hx hb d_Model_looked_2 (by decide) ?_
  refine lv_istore_n (lv' := [(3, .int 0), (2, .int 0), (0, .ref (g 0)), (1, .int x1)]) hx hb d_Model_looked_3 rfl hl (by decide) rfl (fun ls hl => ?_)
  exact t_Model_looked_4 C N μ post   N x1 0 0 _ _ _ hP hD hS (lv_sub hl [2, 3, 1, 0] rfl) h
set_option maxHeartbeats 4000000 in
set_option maxRecDepth 100000 in
theorem t_Model_looksAt_48 {p : Program} {l : Launch} {e : Env} {s : State} {m : MethodId} {args : Array Value} {below : List Frame} {meth : Method} {c : Code} {A : Nat → Prop} {D : va_G} {k : Nat → ClassId} {g : Nat → Nat} (C : Cx p s m args meth c D k "PromotionTillModel" b_Model_looksAt 3 (some .boolean) A) (N : Nat) (μ : St) (post : Int32 → (Unit) → Prop) (K_2 : Int32 → Int32 → Prop) (hK_2 : ∀ (x1 : Int32) (x2 : Int32) (H : Heap) (locs : List Loc) (ls : Array Slot), va_P D CL (wModel k g μ) H → va_D A (wModel k g μ) → va_S A s.heap H locs → lv_has ls 3 [(0, .ref (g 0)), (1, .int x1), (2, .int x2)] → K_2 x1 x2 → W p l e rm_Model_looksAt s m args below meth c H locs 0 0 (MQ below (va_Qi post (fun (u : Unit) t => va_P D CL (wModel k g μ) t.heap ∧ va_D A (wModel k g μ)) A) args s rm_Model_looksAt.cells rm_Model_looksAt.slots A) (F0 m 2 ls [])) :
    ∀ (x1 : Int32) (x2 : Int32) (H : Heap) (locs : List Loc) (ls : Array Slot), va_P D CL (wModel k g μ) H → va_D A (wModel k g μ) → va_S A s.heap H locs → lv_has ls 3 [(0, .ref (g 0)), (1, .int x1), (2, .int x2)] → wp_Model_looksAt_48 N μ post K_2 x1 x2 → W p l e rm_Model_looksAt s m args below meth c H locs 0 0 (MQ below (va_Qi post (fun (u : Unit) t => va_P D CL (wModel k g μ) t.heap ∧ va_D A (wModel k g μ)) A) args s rm_Model_looksAt.cells rm_Model_looksAt.slots A) (F0 m 48 ls []) := by
  obtain ⟨hx, hb, hr, hlk, hml, hown, hts, hK, hA⟩ := id C
  intro x1 x2 H locs ls hP hD hS hl h
  unfold wp_Model_looksAt_48 at h
  refine lv_iinc (v := x2 + 1) (lv' := [(2, .int (x2 + 1)), (0, .ref (g 0)), (1, .int x1)]) hx hb d_Model_looksAt_48 hl (k := 2) rfl rfl (by decide) rfl (fun ls hl => ?_)
  refine lv_goto (tgt := 2) hx hb d_Model_looksAt_51 (by decide) ?_
  exact hK_2 x1 (x2 + 1) _ _ _ hP hD hS (lv_sub hl [1, 2, 0] rfl) h
set_option maxHeartbeats 4000000 in
set_option maxRecDepth 100000 in
theorem t_Model_looksAt_2 {p : Program} {l : Launch} {e : Env} {s : State} {m : MethodId} {args : Array Value} {below : List Frame} {meth : Method} {c : Code} {A : Nat → Prop} {D : va_G} {k : Nat → ClassId} {g : Nat → Nat} (C : Cx p s m args meth c D k "PromotionTillModel" b_Model_looksAt 3 (some .boolean) A) (N : Nat) (μ : St) (post : Int32 → (Unit) → Prop) :
    ∀ (n : Nat) (x1 : Int32) (x2 : Int32) (H : Heap) (locs : List Loc) (ls : Array Slot), va_P D CL (wModel k g μ) H → va_D A (wModel k g μ) → va_S A s.heap H locs → lv_has ls 3 [(0, .ref (g 0)), (1, .int x1), (2, .int x2)] → wp_Model_looksAt_2 N μ post n x1 x2 → W p l e rm_Model_looksAt s m args below meth c H locs 0 0 (MQ below (va_Qi post (fun (u : Unit) t => va_P D CL (wModel k g μ) t.heap ∧ va_D A (wModel k g μ)) A) args s rm_Model_looksAt.cells rm_Model_looksAt.slots A) (F0 m 2 ls []) := by
  obtain ⟨hx, hb, hr, hlk, hml, hown, hts, hK, hA⟩ := id C
  intro n
  induction n with
  | zero =>
    intro x1 x2 H locs ls hP hD hS hl h
    exact absurd h (by simp [wp_Model_looksAt_2])
  | succ n ih =>
    intro x1 x2 H locs ls hP hD hS hl h
    rw [wp_Model_looksAt_2] at h
    refine lv_iload_n hx hb d_Model_looksAt_2 rfl (lv_at hl 2 rfl) ?_
    refine lv_bipush (v := 6) hx hb d_Model_looksAt_3 (by decide) ?_
    refine lv_icmp_ge (tgt := 54) hx hb d_Model_looksAt_5 (by decide) (fun c1 => ?_) (fun c1 => ?_)
    · replace h := h.1 c1
      refine lv_iconst (v := 0) hx hb d_Model_looksAt_54 (by decide) ?_
      exact ret_z (u := ()) (wf := (fun u : Unit => wModel k g μ)) C rfl hP hD hS (Nat.zero_le _) (Nat.zero_le _) h d_Model_looksAt_55
    · replace h := h.2 c1
      refine lv_aload_n hx hb d_Model_looksAt_8 rfl (lv_at hl 0 rfl) ?_
      refine va_get (D := D) (ci := 8) (v := .ref (g 7)) (C := R_Model) (T := F_Model) (N := 40) hx hb hts in_Model hown hK hP 0 rfl rfl 6 (by decide) (hts _ kw_868) (fun _ h9 => h9) rfl d_Model_looksAt_9 ?_
      refine lv_bipush (v := 6) hx hb d_Model_looksAt_12 (by decide) ?_
      refine lv_aload_n hx hb d_Model_looksAt_14 rfl (lv_at hl 0 rfl) ?_
      refine va_get (D := D) (ci := 8) (v := .int (μ 23 0)) (C := R_Model) (T := F_Model) (N := 40) hx hb hts in_Model hown hK hP 0 rfl rfl 23 (by decide) (hts _ kw_885) (fun _ h9 => h9) rfl d_Model_looksAt_15 ?_
      refine lv_imul hx hb d_Model_looksAt_18 ?_
      refine lv_iload_n hx hb d_Model_looksAt_19 rfl (lv_at hl 2 rfl) ?_
      refine lv_iadd hx hb d_Model_looksAt_20 ?_
      obtain ⟨hi2, h⟩ := h
      refine va_zald hx hb hK hP 7 1 rfl rfl hi2 d_Model_looksAt_21 ?_
      refine lv_if_eq (tgt := 48) hx hb d_Model_looksAt_22 (by decide) (fun c3 => ?_) (fun c3 => ?_)
      · replace h := h.1 c3
        exact t_Model_looksAt_48 C N μ post (wp_Model_looksAt_2 N μ post n) ih x1 x2 _ _ _ hP hD hS (lv_sub hl [0, 1, 2] rfl) h
      · replace h := h.2 c3
        refine lv_aload_n hx hb d_Model_looksAt_25 rfl (lv_at hl 0 rfl) ?_
        refine lv_bipush (v := 6) hx hb d_Model_looksAt_26 (by decide) ?_
        refine lv_aload_n hx hb d_Model_looksAt_28 rfl (lv_at hl 0 rfl) ?_
        refine va_get (D := D) (ci := 8) (v := .int (μ 23 0)) (C := R_Model) (T := F_Model) (N := 40) hx hb hts in_Model hown hK hP 0 rfl rfl 23 (by decide) (hts _ kw_885) (fun _ h9 => h9) rfl d_Model_looksAt_29 ?_
        refine lv_imul hx hb d_Model_looksAt_32 ?_
        refine lv_iload_n hx hb d_Model_looksAt_33 rfl (lv_at hl 2 rfl) ?_
        refine lv_iadd hx hb d_Model_looksAt_34 ?_
        refine same_i C hP hD hS (runV (As := [.int ((6 * (μ 23 0)) + x2)]) (rest := []) C hP hD (m_Model_looked N g μ ((6 * (μ 23 0)) + x2)  _ h H.size) kw_1024 kw_1026 kp_28 kw_12 kw_1027 hd_Model_looked ⟨Nat.le_of_ble_eq_true rfl, Nat.le_of_ble_eq_true rfl⟩ ⟨Nat.le_of_ble_eq_true rfl, Nat.le_of_ble_eq_true rfl⟩ 0 rfl rfl rfl rfl hl.1 (Nat.le_of_ble_eq_true rfl) d_Model_looksAt_35) (fun r5 u4 H locs h hP hD hS => ?_)
        replace hP : va_P D CL (wModel k g μ) H := hP
        replace hD : va_D A (wModel k g μ) := hD
        try dsimp only at h
        refine lv_iload_n hx hb d_Model_looksAt_38 rfl (lv_at hl 1 rfl) ?_
        refine lv_ishr hx hb d_Model_looksAt_39 ?_
        refine lv_iconst (v := 1) hx hb d_Model_looksAt_40 (by decide) ?_
        refine lv_iand hx hb d_Model_looksAt_41 ?_
        refine lv_iconst (v := 1) hx hb d_Model_looksAt_42 (by decide) ?_
        refine lv_icmp_ne (tgt := 48) hx hb d_Model_looksAt_43 (by decide) (fun c6 => ?_) (fun c6 => ?_)
        · replace h := h.1 c6
          exact t_Model_looksAt_48 C N μ post (wp_Model_looksAt_2 N μ post n) ih x1 x2 _ _ _ hP hD hS (lv_sub hl [0, 1, 2] rfl) h
        · replace h := h.2 c6
          refine lv_iconst (v := 1) hx hb d_Model_looksAt_46 (by decide) ?_
          exact ret_z (u := ()) (wf := (fun u : Unit => wModel k g μ)) C rfl hP hD hS (Nat.zero_le _) (Nat.zero_le _) h d_Model_looksAt_47
set_option maxHeartbeats 4000000 in
set_option maxRecDepth 100000 in
theorem m_Model_looksAt {l : Launch} {D : va_G} {k : Nat → ClassId} (N : Nat) (g : Nat → Nat) (μ : St) (x1 : Int32) (post : Int32 → (Unit) → Prop) (h : wp_Model_looksAt N  μ x1 post) : Ci l D k y_Model_looksAt b_Model_looksAt 3 .boolean rm_Model_looksAt [.ref (g 0), .int x1] (wModel k g μ) (fun u : Unit => wModel k g μ) post := by
  refine Ci.of (by decide) (Nat.le_of_ble_eq_true rfl) ?_
  intro p e s m below meth c A H locs ls C hP hD hS hl
  obtain ⟨hx, hb, hr, hlk, hml, hown, hts, hK, hA⟩ := id C
  replace hl : lv_has ls 3 [(0, .ref (g 0)), (1, .int x1)] := hl
  unfold wp_Model_looksAt at h
  refine lv_iconst (v := 0) hx hb d_Model_looksAt_0 (by decide) ?_
  refine lv_istore_n (lv' := [(2, .int 0), (0, .ref (g 0)), (1, .int x1)]) hx hb d_Model_looksAt_1 rfl hl (by decide) rfl (fun ls hl => ?_)
  exact t_Model_looksAt_2 C N μ post   N x1 0 _ _ _ hP hD hS (lv_sub hl [1, 2, 0] rfl) h
set_option maxHeartbeats 4000000 in
set_option maxRecDepth 100000 in
theorem m_Model_beginUses {l : Launch} {D : va_G} {k : Nat → ClassId} (N : Nat) (g : Nat → Nat) (μ : St) (x1 : Int32) (post : ((St)) → Prop) (h : wp_Model_beginUses N  μ x1 post) : Cv l D k y_Model_beginUses b_Model_beginUses 2 rm_Model_beginUses [.ref (g 0), .int x1] (wModel k g μ) (fun u : (St) => wModel k g u) post := by
  refine Cv.of (by decide) (Nat.le_of_ble_eq_true rfl) ?_
  intro p e s m below meth c A H locs ls C hP hD hS hl
  obtain ⟨hx, hb, hr, hlk, hml, hown, hts, hK, hA⟩ := id C
  replace hl : lv_has ls 2 [(0, .ref (g 0)), (1, .int x1)] := hl
  unfold wp_Model_beginUses at h
  refine lv_aload_n hx hb d_Model_beginUses_0 rfl (lv_at hl 0 rfl) ?_
  refine lv_iconst (v := 0) hx hb d_Model_beginUses_1 (by decide) ?_
  refine va_put (D := D) (ci := 8) (v := .int 0) (ty := .int) (C := R_Model) (T := F_Model) (N := 40) hx hb hts in_Model t_Model tt_Model n_Model hown hK hP hD hS 0 rfl rfl 32 (by decide) (hts _ kw_894) (fun _ h9 => h9) rfl (by decide +kernel) rfl rfl (Nat.le_of_ble_eq_true rfl) d_Model_beginUses_2 (fun H locs hP hD hS => ?_)
  obtain ⟨μ1, eμ1⟩ : ∃ z, z = s2 μ 32 0 0 := ⟨_, rfl⟩
  replace hP : va_P D CL (wModel k g μ1) H := by rw [eμ1]; exact hP
  replace hD : va_D A (wModel k g μ1) := by rw [eμ1]; exact hD
  replace h := h μ1 eμ1
  refine lv_aload_n hx hb d_Model_beginUses_5 rfl (lv_at hl 0 rfl) ?_
  refine lv_aload_n hx hb d_Model_beginUses_6 rfl (lv_at hl 0 rfl) ?_
  refine lv_iload_n hx hb d_Model_beginUses_7 rfl (lv_at hl 1 rfl) ?_
  refine same_i C hP hD hS (runV (As := [.int x1]) (rest := [.ref (g 0)]) C hP hD (m_Model_lengthOf N g μ1 x1  _ h H.size) kw_1028 kw_1030 kp_29 kw_12 kw_1031 hd_Model_lengthOf ⟨Nat.le_of_ble_eq_true rfl, Nat.le_of_ble_eq_true rfl⟩ ⟨Nat.le_of_ble_eq_true rfl, Nat.le_of_ble_eq_true rfl⟩ 0 rfl rfl rfl rfl hl.1 (Nat.le_of_ble_eq_true rfl) d_Model_beginUses_8) (fun r3 u2 H locs h hP hD hS => ?_)
  replace hP : va_P D CL (wModel k g μ1) H := hP
  replace hD : va_D A (wModel k g μ1) := hD
  try dsimp only at h
  refine va_put (D := D) (ci := 8) (v := .int r3) (ty := .int) (C := R_Model) (T := F_Model) (N := 40) hx hb hts in_Model t_Model tt_Model n_Model hown hK hP hD hS 0 rfl rfl 33 (by decide) (hts _ kw_895) (fun _ h9 => h9) rfl (by decide +kernel) rfl rfl (Nat.le_of_ble_eq_true rfl) d_Model_beginUses_11 (fun H locs hP hD hS => ?_)
  obtain ⟨μ4, eμ4⟩ : ∃ z, z = s2 μ1 33 0 r3 := ⟨_, rfl⟩
  replace hP : va_P D CL (wModel k g μ4) H := by rw [eμ4]; exact hP
  replace hD : va_D A (wModel k g μ4) := by rw [eμ4]; exact hD
  replace h := h μ4 eμ4
  refine lv_aload_n hx hb d_Model_beginUses_14 rfl (lv_at hl 0 rfl) ?_
  refine va_get (D := D) (ci := 8) (v := .ref (g 26)) (C := R_Model) (T := F_Model) (N := 40) hx hb hts in_Model hown hK hP 0 rfl rfl 31 (by decide) (hts _ kw_893) (fun _ h9 => h9) rfl d_Model_beginUses_15 ?_
  refine lv_iconst (v := 0) hx hb d_Model_beginUses_18 (by decide) ?_
  refine lv_iconst (v := (-1)) hx hb d_Model_beginUses_19 (by decide) ?_
  obtain ⟨hi5, h⟩ := h
  refine va_iast hx hb hK hP hD hS 26 0 rfl rfl hi5 d_Model_beginUses_20 (fun H locs hP hD hS => ?_)
  obtain ⟨μ6, eμ6⟩ : ∃ z, z = s2 μ4 31 (Int32.toNatClampNeg 0) (-1) := ⟨_, rfl⟩
  replace hP : va_P D CL (wModel k g μ6) H := by rw [eμ6]; exact hP
  replace hD : va_D A (wModel k g μ6) := by rw [eμ6]; exact hD
  replace h := h μ6 eμ6
  exact ret_v (u := μ6) (wf := (fun u : (St) => wModel k g u)) C hP hD hS (Nat.zero_le _) (Nat.zero_le _) h d_Model_beginUses_21
set_option maxHeartbeats 4000000 in
set_option maxRecDepth 100000 in
theorem t_Model_nextUse_281 {p : Program} {l : Launch} {e : Env} {s : State} {m : MethodId} {args : Array Value} {below : List Frame} {meth : Method} {c : Code} {A : Nat → Prop} {D : va_G} {k : Nat → ClassId} {g : Nat → Nat} (C : Cx p s m args meth c D k "PromotionTillModel" b_Model_nextUse 3 (some .boolean) A) (N : Nat) (post : Int32 → ((St)) → Prop) :
    ∀ (μ : (St)) (H : Heap) (locs : List Loc) (ls : Array Slot), va_P D CL (wModel k g μ) H → va_D A (wModel k g μ) → va_S A s.heap H locs → lv_has ls 3 [(0, .ref (g 0))] → wp_Model_nextUse_281 N post μ → W p l e rm_Model_nextUse s m args below meth c H locs 0 0 (MQ below (va_Qi post (fun (u : (St)) t => va_P D CL (wModel k g u) t.heap ∧ va_D A (wModel k g u)) A) args s rm_Model_nextUse.cells rm_Model_nextUse.slots A) (F0 m 281 ls []) := by
  obtain ⟨hx, hb, hr, hlk, hml, hown, hts, hK, hA⟩ := id C
  intro μ H locs ls hP hD hS hl h
  unfold wp_Model_nextUse_281 at h
  refine lv_aload_n hx hb d_Model_nextUse_281 rfl (lv_at hl 0 rfl) ?_
  refine va_get (D := D) (ci := 8) (v := .int (μ 32 0)) (C := R_Model) (T := F_Model) (N := 40) hx hb hts in_Model hown hK hP 0 rfl rfl 32 (by decide) (hts _ kw_894) (fun _ h9 => h9) rfl d_Model_nextUse_282 ?_
  refine lv_aload_n hx hb d_Model_nextUse_285 rfl (lv_at hl 0 rfl) ?_
  refine va_get (D := D) (ci := 8) (v := .int (μ 33 0)) (C := R_Model) (T := F_Model) (N := 40) hx hb hts in_Model hown hK hP 0 rfl rfl 33 (by decide) (hts _ kw_895) (fun _ h9 => h9) rfl d_Model_nextUse_286 ?_
  refine lv_icmp_ne (tgt := 296) hx hb d_Model_nextUse_289 (by decide) (fun c44 => ?_) (fun c44 => ?_)
  · replace h := h.1 c44
    refine lv_iconst (v := 0) hx hb d_Model_nextUse_296 (by decide) ?_
    exact ret_z (u := μ) (wf := (fun u : (St) => wModel k g u)) C rfl hP hD hS (Nat.zero_le _) (Nat.zero_le _) h d_Model_nextUse_297
  · replace h := h.2 c44
    refine lv_iconst (v := 1) hx hb d_Model_nextUse_292 (by decide) ?_
    refine lv_goto (tgt := 297) hx hb d_Model_nextUse_293 (by decide) ?_
    exact ret_z (u := μ) (wf := (fun u : (St) => wModel k g u)) C rfl hP hD hS (Nat.zero_le _) (Nat.zero_le _) h d_Model_nextUse_297
set_option maxHeartbeats 4000000 in
set_option maxRecDepth 100000 in
theorem t_Model_nextUse_277 {p : Program} {l : Launch} {e : Env} {s : State} {m : MethodId} {args : Array Value} {below : List Frame} {meth : Method} {c : Code} {A : Nat → Prop} {D : va_G} {k : Nat → ClassId} {g : Nat → Nat} (C : Cx p s m args meth c D k "PromotionTillModel" b_Model_nextUse 3 (some .boolean) A) (N : Nat) (post : Int32 → ((St)) → Prop) (K_78 : Int32 → (St) → Prop) (hK_78 : ∀ (x2 : Int32) (μ : (St)) (H : Heap) (locs : List Loc) (ls : Array Slot), va_P D CL (wModel k g μ) H → va_D A (wModel k g μ) → va_S A s.heap H locs → lv_has ls 3 [(0, .ref (g 0)), (2, .int x2)] → K_78 x2 μ → W p l e rm_Model_nextUse s m args below meth c H locs 0 0 (MQ below (va_Qi post (fun (u : (St)) t => va_P D CL (wModel k g u) t.heap ∧ va_D A (wModel k g u)) A) args s rm_Model_nextUse.cells rm_Model_nextUse.slots A) (F0 m 78 ls [])) :
    ∀ (x2 : Int32) (y0 : Int32) (y1 : Int32) (μ : (St)) (H : Heap) (locs : List Loc) (ls : Array Slot), va_P D CL (wModel k g μ) H → va_D A (wModel k g μ) → va_S A s.heap H locs → lv_has ls 3 [(0, .ref (g 0)), (2, .int x2)] → wp_Model_nextUse_277 N post K_78 x2 y0 y1 μ → W p l e rm_Model_nextUse s m args below meth c H locs 0 0 (MQ below (va_Qi post (fun (u : (St)) t => va_P D CL (wModel k g u) t.heap ∧ va_D A (wModel k g u)) A) args s rm_Model_nextUse.cells rm_Model_nextUse.slots A) (F0 m 277 ls [.int y0, .int y1, .ref (g 26)]) := by
  obtain ⟨hx, hb, hr, hlk, hml, hown, hts, hK, hA⟩ := id C
  intro x2 y0 y1 μ H locs ls hP hD hS hl h
  unfold wp_Model_nextUse_277 at h
  obtain ⟨hi42, h⟩ := h
  refine va_iast hx hb hK hP hD hS 26 0 rfl rfl hi42 d_Model_nextUse_277 (fun H locs hP hD hS => ?_)
  obtain ⟨μ43, eμ43⟩ : ∃ z, z = s2 μ 31 (Int32.toNatClampNeg y1) y0 := ⟨_, rfl⟩
  replace hP : va_P D CL (wModel k g μ43) H := by rw [eμ43]; exact hP
  replace hD : va_D A (wModel k g μ43) := by rw [eμ43]; exact hD
  replace h := h μ43 eμ43
  refine lv_goto (tgt := 78) hx hb d_Model_nextUse_278 (by decide) ?_
  exact hK_78 x2 μ43 _ _ _ hP hD hS (lv_sub hl [0, 1] rfl) h
set_option maxHeartbeats 4000000 in
set_option maxRecDepth 100000 in
theorem t_Model_nextUse_78 {p : Program} {l : Launch} {e : Env} {s : State} {m : MethodId} {args : Array Value} {below : List Frame} {meth : Method} {c : Code} {A : Nat → Prop} {D : va_G} {k : Nat → ClassId} {g : Nat → Nat} (C : Cx p s m args meth c D k "PromotionTillModel" b_Model_nextUse 3 (some .boolean) A) (N : Nat) (post : Int32 → ((St)) → Prop) :
    ∀ (n : Nat) (x2 : Int32) (μ : (St)) (H : Heap) (locs : List Loc) (ls : Array Slot), va_P D CL (wModel k g μ) H → va_D A (wModel k g μ) → va_S A s.heap H locs → lv_has ls 3 [(0, .ref (g 0)), (2, .int x2)] → wp_Model_nextUse_78 N post n x2 μ → W p l e rm_Model_nextUse s m args below meth c H locs 0 0 (MQ below (va_Qi post (fun (u : (St)) t => va_P D CL (wModel k g u) t.heap ∧ va_D A (wModel k g u)) A) args s rm_Model_nextUse.cells rm_Model_nextUse.slots A) (F0 m 78 ls []) := by
  obtain ⟨hx, hb, hr, hlk, hml, hown, hts, hK, hA⟩ := id C
  intro n
  induction n with
  | zero =>
    intro x2 μ H locs ls hP hD hS hl h
    exact absurd h (by simp [wp_Model_nextUse_78])
  | succ n ih =>
    intro x2 μ H locs ls hP hD hS hl h
    rw [wp_Model_nextUse_78] at h
    refine lv_aload_n hx hb d_Model_nextUse_78 rfl (lv_at hl 0 rfl) ?_
    refine va_get (D := D) (ci := 8) (v := .int (μ 32 0)) (C := R_Model) (T := F_Model) (N := 40) hx hb hts in_Model hown hK hP 0 rfl rfl 32 (by decide) (hts _ kw_894) (fun _ h9 => h9) rfl d_Model_nextUse_79 ?_
    refine lv_if_lt (tgt := 281) hx hb d_Model_nextUse_82 (by decide) (fun c13 => ?_) (fun c13 => ?_)
    · replace h := h.1 c13
      exact t_Model_nextUse_281 C N post μ _ _ _ hP hD hS (lv_sub hl [0] rfl) h
    · replace h := h.2 c13
      refine lv_aload_n hx hb d_Model_nextUse_85 rfl (lv_at hl 0 rfl) ?_
      refine va_get (D := D) (ci := 8) (v := .int (μ 32 0)) (C := R_Model) (T := F_Model) (N := 40) hx hb hts in_Model hown hK hP 0 rfl rfl 32 (by decide) (hts _ kw_894) (fun _ h9 => h9) rfl d_Model_nextUse_86 ?_
      refine lv_aload_n hx hb d_Model_nextUse_89 rfl (lv_at hl 0 rfl) ?_
      refine va_get (D := D) (ci := 8) (v := .int (μ 33 0)) (C := R_Model) (T := F_Model) (N := 40) hx hb hts in_Model hown hK hP 0 rfl rfl 33 (by decide) (hts _ kw_895) (fun _ h9 => h9) rfl d_Model_nextUse_90 ?_
      refine lv_icmp_ge (tgt := 281) hx hb d_Model_nextUse_93 (by decide) (fun c14 => ?_) (fun c14 => ?_)
      · replace h := h.1 c14
        exact t_Model_nextUse_281 C N post μ _ _ _ hP hD hS (lv_sub hl [0] rfl) h
      · replace h := h.2 c14
        refine lv_aload_n hx hb d_Model_nextUse_96 rfl (lv_at hl 0 rfl) ?_
        refine va_get (D := D) (ci := 8) (v := .ref (g 26)) (C := R_Model) (T := F_Model) (N := 40) hx hb hts in_Model hown hK hP 0 rfl rfl 31 (by decide) (hts _ kw_893) (fun _ h9 => h9) rfl d_Model_nextUse_97 ?_
        refine lv_aload_n hx hb d_Model_nextUse_100 rfl (lv_at hl 0 rfl) ?_
        refine va_get (D := D) (ci := 8) (v := .int (μ 32 0)) (C := R_Model) (T := F_Model) (N := 40) hx hb hts in_Model hown hK hP 0 rfl rfl 32 (by decide) (hts _ kw_894) (fun _ h9 => h9) rfl d_Model_nextUse_101 ?_
        refine lv_dup2_11 hx hb d_Model_nextUse_104 rfl rfl ?_
        obtain ⟨hi15, h⟩ := h
        refine va_iald hx hb hK hP 26 0 rfl rfl hi15 d_Model_nextUse_105 ?_
        refine lv_iconst (v := 1) hx hb d_Model_nextUse_106 (by decide) ?_
        refine lv_iadd hx hb d_Model_nextUse_107 ?_
        obtain ⟨hi16, h⟩ := h
        refine va_iast hx hb hK hP hD hS 26 0 rfl rfl hi16 d_Model_nextUse_108 (fun H locs hP hD hS => ?_)
        obtain ⟨μ17, eμ17⟩ : ∃ z, z = s2 μ 31 (Int32.toNatClampNeg (μ 32 0)) ((μ 31 (Int32.toNatClampNeg (μ 32 0))) + 1) := ⟨_, rfl⟩
        replace hP : va_P D CL (wModel k g μ17) H := by rw [eμ17]; exact hP
        replace hD : va_D A (wModel k g μ17) := by rw [eμ17]; exact hD
        replace h := h μ17 eμ17
        refine lv_aload_n hx hb d_Model_nextUse_109 rfl (lv_at hl 0 rfl) ?_
        refine va_get (D := D) (ci := 8) (v := .ref (g 26)) (C := R_Model) (T := F_Model) (N := 40) hx hb hts in_Model hown hK hP 0 rfl rfl 31 (by decide) (hts _ kw_893) (fun _ h9 => h9) rfl d_Model_nextUse_110 ?_
        refine lv_aload_n hx hb d_Model_nextUse_113 rfl (lv_at hl 0 rfl) ?_
        refine va_get (D := D) (ci := 8) (v := .int (μ17 32 0)) (C := R_Model) (T := F_Model) (N := 40) hx hb hts in_Model hown hK hP 0 rfl rfl 32 (by decide) (hts _ kw_894) (fun _ h9 => h9) rfl d_Model_nextUse_114 ?_
        obtain ⟨hi18, h⟩ := h
        refine va_iald hx hb hK hP 26 0 rfl rfl hi18 d_Model_nextUse_117 ?_
        refine lv_bipush (v := 12) hx hb d_Model_nextUse_118 (by decide) ?_
        refine lv_icmp_ne (tgt := 161) hx hb d_Model_nextUse_120 (by decide) (fun c19 => ?_) (fun c19 => ?_)
        · replace h := h.1 c19
          refine lv_aload_n hx hb d_Model_nextUse_161 rfl (lv_at hl 0 rfl) ?_
          refine lv_iload_n hx hb d_Model_nextUse_162 rfl (lv_at hl 1 rfl) ?_
          refine lv_aload_n hx hb d_Model_nextUse_163 rfl (lv_at hl 0 rfl) ?_
          refine va_get (D := D) (ci := 8) (v := .int (μ17 32 0)) (C := R_Model) (T := F_Model) (N := 40) hx hb hts in_Model hown hK hP 0 rfl rfl 32 (by decide) (hts _ kw_894) (fun _ h9 => h9) rfl d_Model_nextUse_164 ?_
          refine same_i C hP hD hS (runV (As := [.int x2, .int (μ17 32 0)]) (rest := []) C hP hD (m_Model_setOf N g μ17 x2 (μ17 32 0)  _ h H.size) kw_1032 kw_1034 kp_30 kw_12 kw_1035 hd_Model_setOf ⟨Nat.le_of_ble_eq_true rfl, Nat.le_of_ble_eq_true rfl⟩ ⟨Nat.le_of_ble_eq_true rfl, Nat.le_of_ble_eq_true rfl⟩ 0 rfl rfl rfl rfl hl.1 (Nat.le_of_ble_eq_true rfl) d_Model_nextUse_167) (fun r21 u20 H locs h hP hD hS => ?_)
          replace hP : va_P D CL (wModel k g μ17) H := hP
          replace hD : va_D A (wModel k g μ17) := hD
          try dsimp only at h
          refine lv_aload_n hx hb d_Model_nextUse_170 rfl (lv_at hl 0 rfl) ?_
          refine va_get (D := D) (ci := 8) (v := .ref (g 26)) (C := R_Model) (T := F_Model) (N := 40) hx hb hts in_Model hown hK hP 0 rfl rfl 31 (by decide) (hts _ kw_893) (fun _ h9 => h9) rfl d_Model_nextUse_171 ?_
          refine lv_aload_n hx hb d_Model_nextUse_174 rfl (lv_at hl 0 rfl) ?_
          refine va_get (D := D) (ci := 8) (v := .int (μ17 32 0)) (C := R_Model) (T := F_Model) (N := 40) hx hb hts in_Model hown hK hP 0 rfl rfl 32 (by decide) (hts _ kw_894) (fun _ h9 => h9) rfl d_Model_nextUse_175 ?_
          obtain ⟨hi22, h⟩ := h
          refine va_iald hx hb hK hP 26 0 rfl rfl hi22 d_Model_nextUse_178 ?_
          refine lv_ishr hx hb d_Model_nextUse_179 ?_
          refine lv_iconst (v := 1) hx hb d_Model_nextUse_180 (by decide) ?_
          refine lv_iand hx hb d_Model_nextUse_181 ?_
          refine lv_iconst (v := 1) hx hb d_Model_nextUse_182 (by decide) ?_
          refine lv_icmp_ne (tgt := 78) hx hb d_Model_nextUse_183 (by decide) (fun c23 => ?_) (fun c23 => ?_)
          · replace h := h.1 c23
            exact ih x2 μ17 _ _ _ hP hD hS (lv_sub hl [0, 1] rfl) h
          · replace h := h.2 c23
            refine lv_aload_n hx hb d_Model_nextUse_186 rfl (lv_at hl 0 rfl) ?_
            refine va_get (D := D) (ci := 8) (v := .ref (g 20)) (C := R_Model) (T := F_Model) (N := 40) hx hb hts in_Model hown hK hP 0 rfl rfl 24 (by decide) (hts _ kw_886) (fun _ h9 => h9) rfl d_Model_nextUse_187 ?_
            refine lv_aload_n hx hb d_Model_nextUse_190 rfl (lv_at hl 0 rfl) ?_
            refine va_get (D := D) (ci := 8) (v := .ref (g 26)) (C := R_Model) (T := F_Model) (N := 40) hx hb hts in_Model hown hK hP 0 rfl rfl 31 (by decide) (hts _ kw_893) (fun _ h9 => h9) rfl d_Model_nextUse_191 ?_
            refine lv_aload_n hx hb d_Model_nextUse_194 rfl (lv_at hl 0 rfl) ?_
            refine va_get (D := D) (ci := 8) (v := .int (μ17 32 0)) (C := R_Model) (T := F_Model) (N := 40) hx hb hts in_Model hown hK hP 0 rfl rfl 32 (by decide) (hts _ kw_894) (fun _ h9 => h9) rfl d_Model_nextUse_195 ?_
            obtain ⟨hi24, h⟩ := h
            refine va_iald hx hb hK hP 26 0 rfl rfl hi24 d_Model_nextUse_198 ?_
            obtain ⟨hi25, h⟩ := h
            refine va_iald hx hb hK hP 20 0 rfl rfl hi25 d_Model_nextUse_199 ?_
            refine lv_if_le (tgt := 78) hx hb d_Model_nextUse_200 (by decide) (fun c26 => ?_) (fun c26 => ?_)
            · replace h := h.1 c26
              exact ih x2 μ17 _ _ _ hP hD hS (lv_sub hl [0, 1] rfl) h
            · replace h := h.2 c26
              refine lv_aload_n hx hb d_Model_nextUse_203 rfl (lv_at hl 0 rfl) ?_
              refine va_get (D := D) (ci := 8) (v := .ref (g 20)) (C := R_Model) (T := F_Model) (N := 40) hx hb hts in_Model hown hK hP 0 rfl rfl 24 (by decide) (hts _ kw_886) (fun _ h9 => h9) rfl d_Model_nextUse_204 ?_
              refine lv_aload_n hx hb d_Model_nextUse_207 rfl (lv_at hl 0 rfl) ?_
              refine va_get (D := D) (ci := 8) (v := .ref (g 26)) (C := R_Model) (T := F_Model) (N := 40) hx hb hts in_Model hown hK hP 0 rfl rfl 31 (by decide) (hts _ kw_893) (fun _ h9 => h9) rfl d_Model_nextUse_208 ?_
              refine lv_aload_n hx hb d_Model_nextUse_211 rfl (lv_at hl 0 rfl) ?_
              refine va_get (D := D) (ci := 8) (v := .int (μ17 32 0)) (C := R_Model) (T := F_Model) (N := 40) hx hb hts in_Model hown hK hP 0 rfl rfl 32 (by decide) (hts _ kw_894) (fun _ h9 => h9) rfl d_Model_nextUse_212 ?_
              obtain ⟨hi27, h⟩ := h
              refine va_iald hx hb hK hP 26 0 rfl rfl hi27 d_Model_nextUse_215 ?_
              refine lv_dup2_11 hx hb d_Model_nextUse_216 rfl rfl ?_
              obtain ⟨hi28, h⟩ := h
              refine va_iald hx hb hK hP 20 0 rfl rfl hi28 d_Model_nextUse_217 ?_
              refine lv_iconst (v := 1) hx hb d_Model_nextUse_218 (by decide) ?_
              refine lv_isub hx hb d_Model_nextUse_219 ?_
              obtain ⟨hi29, h⟩ := h
              refine va_iast hx hb hK hP hD hS 20 0 rfl rfl hi29 d_Model_nextUse_220 (fun H locs hP hD hS => ?_)
              obtain ⟨μ30, eμ30⟩ : ∃ z, z = s2 μ17 24 (Int32.toNatClampNeg (μ17 31 (Int32.toNatClampNeg (μ17 32 0)))) ((μ17 24 (Int32.toNatClampNeg (μ17 31 (Int32.toNatClampNeg (μ17 32 0))))) - 1) := ⟨_, rfl⟩
              replace hP : va_P D CL (wModel k g μ30) H := by rw [eμ30]; exact hP
              replace hD : va_D A (wModel k g μ30) := by rw [eμ30]; exact hD
              replace h := h μ30 eμ30
              refine lv_aload_n hx hb d_Model_nextUse_221 rfl (lv_at hl 0 rfl) ?_
              refine lv_dup hx hb d_Model_nextUse_222 rfl ?_
              refine va_get (D := D) (ci := 8) (v := .int (μ30 32 0)) (C := R_Model) (T := F_Model) (N := 40) hx hb hts in_Model hown hK hP 0 rfl rfl 32 (by decide) (hts _ kw_894) (fun _ h9 => h9) rfl d_Model_nextUse_223 ?_
              refine lv_iconst (v := 1) hx hb d_Model_nextUse_226 (by decide) ?_
              refine lv_iadd hx hb d_Model_nextUse_227 ?_
              refine va_put (D := D) (ci := 8) (v := .int ((μ30 32 0) + 1)) (ty := .int) (C := R_Model) (T := F_Model) (N := 40) hx hb hts in_Model t_Model tt_Model n_Model hown hK hP hD hS 0 rfl rfl 32 (by decide) (hts _ kw_894) (fun _ h9 => h9) rfl (by decide +kernel) rfl rfl (Nat.le_of_ble_eq_true rfl) d_Model_nextUse_228 (fun H locs hP hD hS => ?_)
              obtain ⟨μ31, eμ31⟩ : ∃ z, z = s2 μ30 32 0 ((μ30 32 0) + 1) := ⟨_, rfl⟩
              replace hP : va_P D CL (wModel k g μ31) H := by rw [eμ31]; exact hP
              replace hD : va_D A (wModel k g μ31) := by rw [eμ31]; exact hD
              replace h := h μ31 eμ31
              refine lv_aload_n hx hb d_Model_nextUse_231 rfl (lv_at hl 0 rfl) ?_
              refine va_get (D := D) (ci := 8) (v := .int (μ31 32 0)) (C := R_Model) (T := F_Model) (N := 40) hx hb hts in_Model hown hK hP 0 rfl rfl 32 (by decide) (hts _ kw_894) (fun _ h9 => h9) rfl d_Model_nextUse_232 ?_
              refine lv_aload_n hx hb d_Model_nextUse_235 rfl (lv_at hl 0 rfl) ?_
              refine va_get (D := D) (ci := 8) (v := .int (μ31 33 0)) (C := R_Model) (T := F_Model) (N := 40) hx hb hts in_Model hown hK hP 0 rfl rfl 33 (by decide) (hts _ kw_895) (fun _ h9 => h9) rfl d_Model_nextUse_236 ?_
              refine lv_icmp_ge (tgt := 78) hx hb d_Model_nextUse_239 (by decide) (fun c32 => ?_) (fun c32 => ?_)
              · replace h := h.1 c32
                exact ih x2 μ31 _ _ _ hP hD hS (lv_sub hl [0, 1] rfl) h
              · replace h := h.2 c32
                refine lv_aload_n hx hb d_Model_nextUse_242 rfl (lv_at hl 0 rfl) ?_
                refine va_get (D := D) (ci := 8) (v := .ref (g 26)) (C := R_Model) (T := F_Model) (N := 40) hx hb hts in_Model hown hK hP 0 rfl rfl 31 (by decide) (hts _ kw_893) (fun _ h9 => h9) rfl d_Model_nextUse_243 ?_
                refine lv_aload_n hx hb d_Model_nextUse_246 rfl (lv_at hl 0 rfl) ?_
                refine va_get (D := D) (ci := 8) (v := .int (μ31 32 0)) (C := R_Model) (T := F_Model) (N := 40) hx hb hts in_Model hown hK hP 0 rfl rfl 32 (by decide) (hts _ kw_894) (fun _ h9 => h9) rfl d_Model_nextUse_247 ?_
                refine lv_aload_n hx hb d_Model_nextUse_250 rfl (lv_at hl 0 rfl) ?_
                refine va_get (D := D) (ci := 8) (v := .ref (g 3)) (C := R_Model) (T := F_Model) (N := 40) hx hb hts in_Model hown hK hP 0 rfl rfl 2 (by decide) (hts _ kw_864) (fun _ h9 => h9) rfl d_Model_nextUse_251 ?_
                refine lv_iload_n hx hb d_Model_nextUse_254 rfl (lv_at hl 1 rfl) ?_
                obtain ⟨hi33, h⟩ := h
                refine va_iald hx hb hK hP 3 0 rfl rfl hi33 d_Model_nextUse_255 ?_
                refine lv_iconst (v := 2) hx hb d_Model_nextUse_256 (by decide) ?_
                refine lv_icmp_ne (tgt := 264) hx hb d_Model_nextUse_257 (by decide) (fun c34 => ?_) (fun c34 => ?_)
                · replace h := h.1 c34
                  refine lv_aload_n hx hb d_Model_nextUse_264 rfl (lv_at hl 0 rfl) ?_
                  refine va_get (D := D) (ci := 8) (v := .ref (g 26)) (C := R_Model) (T := F_Model) (N := 40) hx hb hts in_Model hown hK hP 0 rfl rfl 31 (by decide) (hts _ kw_893) (fun _ h9 => h9) rfl d_Model_nextUse_265 ?_
                  refine lv_aload_n hx hb d_Model_nextUse_268 rfl (lv_at hl 0 rfl) ?_
                  refine va_get (D := D) (ci := 8) (v := .int (μ31 32 0)) (C := R_Model) (T := F_Model) (N := 40) hx hb hts in_Model hown hK hP 0 rfl rfl 32 (by decide) (hts _ kw_894) (fun _ h9 => h9) rfl d_Model_nextUse_269 ?_
                  refine lv_iconst (v := 1) hx hb d_Model_nextUse_272 (by decide) ?_
                  refine lv_isub hx hb d_Model_nextUse_273 ?_
                  obtain ⟨hi35, h⟩ := h
                  refine va_iald hx hb hK hP 26 0 rfl rfl hi35 d_Model_nextUse_274 ?_
                  refine lv_iconst (v := 1) hx hb d_Model_nextUse_275 (by decide) ?_
                  refine lv_isub hx hb d_Model_nextUse_276 ?_
                  exact t_Model_nextUse_277 C N post (wp_Model_nextUse_78 N post n) ih x2 ((μ31 31 (Int32.toNatClampNeg ((μ31 32 0) - 1))) - 1) (μ31 32 0) μ31 _ _ _ hP hD hS (lv_sub hl [0, 1] rfl) h
                · replace h := h.2 c34
                  refine lv_iconst (v := (-1)) hx hb d_Model_nextUse_260 (by decide) ?_
                  refine lv_goto (tgt := 277) hx hb d_Model_nextUse_261 (by decide) ?_
                  exact t_Model_nextUse_277 C N post (wp_Model_nextUse_78 N post n) ih x2 (-1) (μ31 32 0) μ31 _ _ _ hP hD hS (lv_sub hl [0, 1] rfl) h
        · replace h := h.2 c19
          refine lv_aload_n hx hb d_Model_nextUse_123 rfl (lv_at hl 0 rfl) ?_
          refine lv_dup hx hb d_Model_nextUse_124 rfl ?_
          refine va_get (D := D) (ci := 8) (v := .int (μ17 32 0)) (C := R_Model) (T := F_Model) (N := 40) hx hb hts in_Model hown hK hP 0 rfl rfl 32 (by decide) (hts _ kw_894) (fun _ h9 => h9) rfl d_Model_nextUse_125 ?_
          refine lv_iconst (v := 1) hx hb d_Model_nextUse_128 (by decide) ?_
          refine lv_isub hx hb d_Model_nextUse_129 ?_
          refine va_put (D := D) (ci := 8) (v := .int ((μ17 32 0) - 1)) (ty := .int) (C := R_Model) (T := F_Model) (N := 40) hx hb hts in_Model t_Model tt_Model n_Model hown hK hP hD hS 0 rfl rfl 32 (by decide) (hts _ kw_894) (fun _ h9 => h9) rfl (by decide +kernel) rfl rfl (Nat.le_of_ble_eq_true rfl) d_Model_nextUse_130 (fun H locs hP hD hS => ?_)
          obtain ⟨μ36, eμ36⟩ : ∃ z, z = s2 μ17 32 0 ((μ17 32 0) - 1) := ⟨_, rfl⟩
          replace hP : va_P D CL (wModel k g μ36) H := by rw [eμ36]; exact hP
          replace hD : va_D A (wModel k g μ36) := by rw [eμ36]; exact hD
          replace h := h μ36 eμ36
          refine lv_aload_n hx hb d_Model_nextUse_133 rfl (lv_at hl 0 rfl) ?_
          refine va_get (D := D) (ci := 8) (v := .int (μ36 32 0)) (C := R_Model) (T := F_Model) (N := 40) hx hb hts in_Model hown hK hP 0 rfl rfl 32 (by decide) (hts _ kw_894) (fun _ h9 => h9) rfl d_Model_nextUse_134 ?_
          refine lv_if_lt (tgt := 78) hx hb d_Model_nextUse_137 (by decide) (fun c37 => ?_) (fun c37 => ?_)
          · replace h := h.1 c37
            exact ih x2 μ36 _ _ _ hP hD hS (lv_sub hl [0, 1] rfl) h
          · replace h := h.2 c37
            refine lv_aload_n hx hb d_Model_nextUse_140 rfl (lv_at hl 0 rfl) ?_
            refine va_get (D := D) (ci := 8) (v := .ref (g 20)) (C := R_Model) (T := F_Model) (N := 40) hx hb hts in_Model hown hK hP 0 rfl rfl 24 (by decide) (hts _ kw_886) (fun _ h9 => h9) rfl d_Model_nextUse_141 ?_
            refine lv_aload_n hx hb d_Model_nextUse_144 rfl (lv_at hl 0 rfl) ?_
            refine va_get (D := D) (ci := 8) (v := .ref (g 26)) (C := R_Model) (T := F_Model) (N := 40) hx hb hts in_Model hown hK hP 0 rfl rfl 31 (by decide) (hts _ kw_893) (fun _ h9 => h9) rfl d_Model_nextUse_145 ?_
            refine lv_aload_n hx hb d_Model_nextUse_148 rfl (lv_at hl 0 rfl) ?_
            refine va_get (D := D) (ci := 8) (v := .int (μ36 32 0)) (C := R_Model) (T := F_Model) (N := 40) hx hb hts in_Model hown hK hP 0 rfl rfl 32 (by decide) (hts _ kw_894) (fun _ h9 => h9) rfl d_Model_nextUse_149 ?_
            obtain ⟨hi38, h⟩ := h
            refine va_iald hx hb hK hP 26 0 rfl rfl hi38 d_Model_nextUse_152 ?_
            refine lv_dup2_11 hx hb d_Model_nextUse_153 rfl rfl ?_
            obtain ⟨hi39, h⟩ := h
            refine va_iald hx hb hK hP 20 0 rfl rfl hi39 d_Model_nextUse_154 ?_
            refine lv_iconst (v := 1) hx hb d_Model_nextUse_155 (by decide) ?_
            refine lv_iadd hx hb d_Model_nextUse_156 ?_
            obtain ⟨hi40, h⟩ := h
            refine va_iast hx hb hK hP hD hS 20 0 rfl rfl hi40 d_Model_nextUse_157 (fun H locs hP hD hS => ?_)
            obtain ⟨μ41, eμ41⟩ : ∃ z, z = s2 μ36 24 (Int32.toNatClampNeg (μ36 31 (Int32.toNatClampNeg (μ36 32 0)))) ((μ36 24 (Int32.toNatClampNeg (μ36 31 (Int32.toNatClampNeg (μ36 32 0))))) + 1) := ⟨_, rfl⟩
            replace hP : va_P D CL (wModel k g μ41) H := by rw [eμ41]; exact hP
            replace hD : va_D A (wModel k g μ41) := by rw [eμ41]; exact hD
            replace h := h μ41 eμ41
            refine lv_goto (tgt := 78) hx hb d_Model_nextUse_158 (by decide) ?_
            exact ih x2 μ41 _ _ _ hP hD hS (lv_sub hl [0, 1] rfl) h
set_option maxHeartbeats 4000000 in
set_option maxRecDepth 100000 in
theorem t_Model_nextUse_39 {p : Program} {l : Launch} {e : Env} {s : State} {m : MethodId} {args : Array Value} {below : List Frame} {meth : Method} {c : Code} {A : Nat → Prop} {D : va_G} {k : Nat → ClassId} {g : Nat → Nat} (C : Cx p s m args meth c D k "PromotionTillModel" b_Model_nextUse 3 (some .boolean) A) (N : Nat) (post : Int32 → ((St)) → Prop) :
    ∀ (x2 : Int32) (μ : (St)) (H : Heap) (locs : List Loc) (ls : Array Slot), va_P D CL (wModel k g μ) H → va_D A (wModel k g μ) → va_S A s.heap H locs → lv_has ls 3 [(0, .ref (g 0)), (2, .int x2)] → wp_Model_nextUse_39 N post x2 μ → W p l e rm_Model_nextUse s m args below meth c H locs 0 0 (MQ below (va_Qi post (fun (u : (St)) t => va_P D CL (wModel k g u) t.heap ∧ va_D A (wModel k g u)) A) args s rm_Model_nextUse.cells rm_Model_nextUse.slots A) (F0 m 39 ls []) := by
  obtain ⟨hx, hb, hr, hlk, hml, hown, hts, hK, hA⟩ := id C
  intro x2 μ H locs ls hP hD hS hl h
  unfold wp_Model_nextUse_39 at h
  refine lv_aload_n hx hb d_Model_nextUse_39 rfl (lv_at hl 0 rfl) ?_
  refine va_get (D := D) (ci := 8) (v := .int (μ 32 0)) (C := R_Model) (T := F_Model) (N := 40) hx hb hts in_Model hown hK hP 0 rfl rfl 32 (by decide) (hts _ kw_894) (fun _ h9 => h9) rfl d_Model_nextUse_40 ?_
  refine lv_aload_n hx hb d_Model_nextUse_43 rfl (lv_at hl 0 rfl) ?_
  refine va_get (D := D) (ci := 8) (v := .int (μ 33 0)) (C := R_Model) (T := F_Model) (N := 40) hx hb hts in_Model hown hK hP 0 rfl rfl 33 (by decide) (hts _ kw_895) (fun _ h9 => h9) rfl d_Model_nextUse_44 ?_
  refine lv_icmp_ne (tgt := 78) hx hb d_Model_nextUse_47 (by decide) (fun c7 => ?_) (fun c7 => ?_)
  · replace h := h.1 c7
    exact t_Model_nextUse_78 C N post   N x2 μ _ _ _ hP hD hS (lv_sub hl [0, 1] rfl) h
  · replace h := h.2 c7
    refine lv_aload_n hx hb d_Model_nextUse_50 rfl (lv_at hl 0 rfl) ?_
    refine lv_dup hx hb d_Model_nextUse_51 rfl ?_
    refine va_get (D := D) (ci := 8) (v := .int (μ 32 0)) (C := R_Model) (T := F_Model) (N := 40) hx hb hts in_Model hown hK hP 0 rfl rfl 32 (by decide) (hts _ kw_894) (fun _ h9 => h9) rfl d_Model_nextUse_52 ?_
    refine lv_iconst (v := 1) hx hb d_Model_nextUse_55 (by decide) ?_
    refine lv_isub hx hb d_Model_nextUse_56 ?_
    refine va_put (D := D) (ci := 8) (v := .int ((μ 32 0) - 1)) (ty := .int) (C := R_Model) (T := F_Model) (N := 40) hx hb hts in_Model t_Model tt_Model n_Model hown hK hP hD hS 0 rfl rfl 32 (by decide) (hts _ kw_894) (fun _ h9 => h9) rfl (by decide +kernel) rfl rfl (Nat.le_of_ble_eq_true rfl) d_Model_nextUse_57 (fun H locs hP hD hS => ?_)
    obtain ⟨μ8, eμ8⟩ : ∃ z, z = s2 μ 32 0 ((μ 32 0) - 1) := ⟨_, rfl⟩
    replace hP : va_P D CL (wModel k g μ8) H := by rw [eμ8]; exact hP
    replace hD : va_D A (wModel k g μ8) := by rw [eμ8]; exact hD
    replace h := h μ8 eμ8
    refine lv_aload_n hx hb d_Model_nextUse_60 rfl (lv_at hl 0 rfl) ?_
    refine va_get (D := D) (ci := 8) (v := .ref (g 20)) (C := R_Model) (T := F_Model) (N := 40) hx hb hts in_Model hown hK hP 0 rfl rfl 24 (by decide) (hts _ kw_886) (fun _ h9 => h9) rfl d_Model_nextUse_61 ?_
    refine lv_aload_n hx hb d_Model_nextUse_64 rfl (lv_at hl 0 rfl) ?_
    refine va_get (D := D) (ci := 8) (v := .ref (g 26)) (C := R_Model) (T := F_Model) (N := 40) hx hb hts in_Model hown hK hP 0 rfl rfl 31 (by decide) (hts _ kw_893) (fun _ h9 => h9) rfl d_Model_nextUse_65 ?_
    refine lv_aload_n hx hb d_Model_nextUse_68 rfl (lv_at hl 0 rfl) ?_
    refine va_get (D := D) (ci := 8) (v := .int (μ8 32 0)) (C := R_Model) (T := F_Model) (N := 40) hx hb hts in_Model hown hK hP 0 rfl rfl 32 (by decide) (hts _ kw_894) (fun _ h9 => h9) rfl d_Model_nextUse_69 ?_
    obtain ⟨hi9, h⟩ := h
    refine va_iald hx hb hK hP 26 0 rfl rfl hi9 d_Model_nextUse_72 ?_
    refine lv_dup2_11 hx hb d_Model_nextUse_73 rfl rfl ?_
    obtain ⟨hi10, h⟩ := h
    refine va_iald hx hb hK hP 20 0 rfl rfl hi10 d_Model_nextUse_74 ?_
    refine lv_iconst (v := 1) hx hb d_Model_nextUse_75 (by decide) ?_
    refine lv_iadd hx hb d_Model_nextUse_76 ?_
    obtain ⟨hi11, h⟩ := h
    refine va_iast hx hb hK hP hD hS 20 0 rfl rfl hi11 d_Model_nextUse_77 (fun H locs hP hD hS => ?_)
    obtain ⟨μ12, eμ12⟩ : ∃ z, z = s2 μ8 24 (Int32.toNatClampNeg (μ8 31 (Int32.toNatClampNeg (μ8 32 0)))) ((μ8 24 (Int32.toNatClampNeg (μ8 31 (Int32.toNatClampNeg (μ8 32 0))))) + 1) := ⟨_, rfl⟩
    replace hP : va_P D CL (wModel k g μ12) H := by rw [eμ12]; exact hP
    replace hD : va_D A (wModel k g μ12) := by rw [eμ12]; exact hD
    replace h := h μ12 eμ12
    exact t_Model_nextUse_78 C N post   N x2 μ12 _ _ _ hP hD hS (lv_sub hl [0, 1] rfl) h
set_option maxHeartbeats 4000000 in
set_option maxRecDepth 100000 in
theorem t_Model_nextUse_37 {p : Program} {l : Launch} {e : Env} {s : State} {m : MethodId} {args : Array Value} {below : List Frame} {meth : Method} {c : Code} {A : Nat → Prop} {D : va_G} {k : Nat → ClassId} {g : Nat → Nat} (C : Cx p s m args meth c D k "PromotionTillModel" b_Model_nextUse 3 (some .boolean) A) (N : Nat) (post : Int32 → ((St)) → Prop) :
    ∀ (μ : (St)) (H : Heap) (locs : List Loc) (ls : Array Slot), va_P D CL (wModel k g μ) H → va_D A (wModel k g μ) → va_S A s.heap H locs → lv_has ls 3 [] → wp_Model_nextUse_37 N post μ → W p l e rm_Model_nextUse s m args below meth c H locs 0 0 (MQ below (va_Qi post (fun (u : (St)) t => va_P D CL (wModel k g u) t.heap ∧ va_D A (wModel k g u)) A) args s rm_Model_nextUse.cells rm_Model_nextUse.slots A) (F0 m 37 ls []) := by
  obtain ⟨hx, hb, hr, hlk, hml, hown, hts, hK, hA⟩ := id C
  intro μ H locs ls hP hD hS hl h
  unfold wp_Model_nextUse_37 at h
  refine lv_iconst (v := 0) hx hb d_Model_nextUse_37 (by decide) ?_
  exact ret_z (u := μ) (wf := (fun u : (St) => wModel k g u)) C rfl hP hD hS (Nat.zero_le _) (Nat.zero_le _) h d_Model_nextUse_38
set_option maxHeartbeats 4000000 in
set_option maxRecDepth 100000 in
theorem m_Model_nextUse {l : Launch} {D : va_G} {k : Nat → ClassId} (N : Nat) (g : Nat → Nat) (μ : St) (x1 : Int32) (post : Int32 → ((St)) → Prop) (h : wp_Model_nextUse N  μ x1 post) : Ci l D k y_Model_nextUse b_Model_nextUse 3 .boolean rm_Model_nextUse [.ref (g 0), .int x1] (wModel k g μ) (fun u : (St) => wModel k g u) post := by
  refine Ci.of (by decide) (Nat.le_of_ble_eq_true rfl) ?_
  intro p e s m below meth c A H locs ls C hP hD hS hl
  obtain ⟨hx, hb, hr, hlk, hml, hown, hts, hK, hA⟩ := id C
  replace hl : lv_has ls 3 [(0, .ref (g 0)), (1, .int x1)] := hl
  unfold wp_Model_nextUse at h
  refine lv_bipush (v := 6) hx hb d_Model_nextUse_0 (by decide) ?_
  refine lv_aload_n hx hb d_Model_nextUse_2 rfl (lv_at hl 0 rfl) ?_
  refine va_get (D := D) (ci := 8) (v := .int (μ 23 0)) (C := R_Model) (T := F_Model) (N := 40) hx hb hts in_Model hown hK hP 0 rfl rfl 23 (by decide) (hts _ kw_885) (fun _ h9 => h9) rfl d_Model_nextUse_3 ?_
  refine lv_imul hx hb d_Model_nextUse_6 ?_
  refine lv_iload_n hx hb d_Model_nextUse_7 rfl (lv_at hl 1 rfl) ?_
  refine lv_iadd hx hb d_Model_nextUse_8 ?_
  refine lv_istore_n (lv' := [(2, .int ((6 * (μ 23 0)) + x1)), (0, .ref (g 0)), (1, .int x1)]) hx hb d_Model_nextUse_9 rfl hl (by decide) rfl (fun ls hl => ?_)
  refine lv_aload_n hx hb d_Model_nextUse_10 rfl (lv_at hl 1 rfl) ?_
  refine va_get (D := D) (ci := 8) (v := .ref (g 7)) (C := R_Model) (T := F_Model) (N := 40) hx hb hts in_Model hown hK hP 0 rfl rfl 6 (by decide) (hts _ kw_868) (fun _ h9 => h9) rfl d_Model_nextUse_11 ?_
  refine lv_iload_n hx hb d_Model_nextUse_14 rfl (lv_at hl 0 rfl) ?_
  obtain ⟨hi1, h⟩ := h
  refine va_zald hx hb hK hP 7 1 rfl rfl hi1 d_Model_nextUse_15 ?_
  refine lv_if_eq (tgt := 37) hx hb d_Model_nextUse_16 (by decide) (fun c2 => ?_) (fun c2 => ?_)
  · replace h := h.1 c2
    exact t_Model_nextUse_37 C N post μ _ _ _ hP hD hS (lv_sub hl [] rfl) h
  · replace h := h.2 c2
    refine lv_aload_n hx hb d_Model_nextUse_19 rfl (lv_at hl 1 rfl) ?_
    refine va_get (D := D) (ci := 8) (v := .ref (g 6)) (C := R_Model) (T := F_Model) (N := 40) hx hb hts in_Model hown hK hP 0 rfl rfl 5 (by decide) (hts _ kw_867) (fun _ h9 => h9) rfl d_Model_nextUse_20 ?_
    refine lv_iload_n hx hb d_Model_nextUse_23 rfl (lv_at hl 0 rfl) ?_
    obtain ⟨hi3, h⟩ := h
    refine va_iald hx hb hK hP 6 0 rfl rfl hi3 d_Model_nextUse_24 ?_
    refine lv_if_le (tgt := 39) hx hb d_Model_nextUse_25 (by decide) (fun c4 => ?_) (fun c4 => ?_)
    · replace h := h.1 c4
      exact t_Model_nextUse_39 C N post ((6 * (μ 23 0)) + x1) μ _ _ _ hP hD hS (lv_sub hl [1, 0] rfl) h
    · replace h := h.2 c4
      refine lv_aload_n hx hb d_Model_nextUse_28 rfl (lv_at hl 1 rfl) ?_
      refine va_get (D := D) (ci := 8) (v := .ref (g 21)) (C := R_Model) (T := F_Model) (N := 40) hx hb hts in_Model hown hK hP 0 rfl rfl 25 (by decide) (hts _ kw_887) (fun _ h9 => h9) rfl d_Model_nextUse_29 ?_
      refine lv_iload_n hx hb d_Model_nextUse_32 rfl (lv_at hl 2 rfl) ?_
      obtain ⟨hi5, h⟩ := h
      refine va_iald hx hb hK hP 21 0 rfl rfl hi5 d_Model_nextUse_33 ?_
      refine lv_if_ne (tgt := 39) hx hb d_Model_nextUse_34 (by decide) (fun c6 => ?_) (fun c6 => ?_)
      · replace h := h.1 c6
        exact t_Model_nextUse_39 C N post ((6 * (μ 23 0)) + x1) μ _ _ _ hP hD hS (lv_sub hl [1, 0] rfl) h
      · replace h := h.2 c6
        exact t_Model_nextUse_37 C N post μ _ _ _ hP hD hS (lv_sub hl [] rfl) h
set_option maxHeartbeats 4000000 in
set_option maxRecDepth 100000 in
theorem t_Model_priceOfList_4 {p : Program} {l : Launch} {e : Env} {s : State} {m : MethodId} {args : Array Value} {below : List Frame} {meth : Method} {c : Code} {A : Nat → Prop} {D : va_G} {k : Nat → ClassId} {g : Nat → Nat} (C : Cx p s m args meth c D k "PromotionTillModel" b_Model_priceOfList 3 (some .int) A) (N : Nat) (μ : St) (post : Int32 → (Unit) → Prop) :
    ∀ (n : Nat) (x1 : Int32) (x2 : Int32) (H : Heap) (locs : List Loc) (ls : Array Slot), va_P D CL (wModel k g μ) H → va_D A (wModel k g μ) → va_S A s.heap H locs → lv_has ls 3 [(0, .ref (g 0)), (1, .int x1), (2, .int x2)] → wp_Model_priceOfList_4 N μ post n x1 x2 → W p l e rm_Model_priceOfList s m args below meth c H locs 0 0 (MQ below (va_Qi post (fun (u : Unit) t => va_P D CL (wModel k g μ) t.heap ∧ va_D A (wModel k g μ)) A) args s rm_Model_priceOfList.cells rm_Model_priceOfList.slots A) (F0 m 4 ls []) := by
  obtain ⟨hx, hb, hr, hlk, hml, hown, hts, hK, hA⟩ := id C
  intro n
  induction n with
  | zero =>
    intro x1 x2 H locs ls hP hD hS hl h
    exact absurd h (by simp [wp_Model_priceOfList_4])
  | succ n ih =>
    intro x1 x2 H locs ls hP hD hS hl h
    rw [wp_Model_priceOfList_4] at h
    refine lv_iload_n hx hb d_Model_priceOfList_4 rfl (lv_at hl 2 rfl) ?_
    refine lv_aload_n hx hb d_Model_priceOfList_5 rfl (lv_at hl 0 rfl) ?_
    refine va_get (D := D) (ci := 8) (v := .int (μ 33 0)) (C := R_Model) (T := F_Model) (N := 40) hx hb hts in_Model hown hK hP 0 rfl rfl 33 (by decide) (hts _ kw_895) (fun _ h9 => h9) rfl d_Model_priceOfList_6 ?_
    refine lv_icmp_ge (tgt := 32) hx hb d_Model_priceOfList_9 (by decide) (fun c1 => ?_) (fun c1 => ?_)
    · replace h := h.1 c1
      refine lv_iload_n hx hb d_Model_priceOfList_32 rfl (lv_at hl 1 rfl) ?_
      exact ret_i (u := ()) (wf := (fun u : Unit => wModel k g μ)) C hP hD hS (Nat.zero_le _) (Nat.zero_le _) h d_Model_priceOfList_33
    · replace h := h.2 c1
      refine lv_iload_n hx hb d_Model_priceOfList_12 rfl (lv_at hl 1 rfl) ?_
      refine lv_aload_n hx hb d_Model_priceOfList_13 rfl (lv_at hl 0 rfl) ?_
      refine va_get (D := D) (ci := 8) (v := .ref (g 24)) (C := R_Model) (T := F_Model) (N := 40) hx hb hts in_Model hown hK hP 0 rfl rfl 28 (by decide) (hts _ kw_890) (fun _ h9 => h9) rfl d_Model_priceOfList_14 ?_
      refine lv_aload_n hx hb d_Model_priceOfList_17 rfl (lv_at hl 0 rfl) ?_
      refine va_get (D := D) (ci := 8) (v := .ref (g 26)) (C := R_Model) (T := F_Model) (N := 40) hx hb hts in_Model hown hK hP 0 rfl rfl 31 (by decide) (hts _ kw_893) (fun _ h9 => h9) rfl d_Model_priceOfList_18 ?_
      refine lv_iload_n hx hb d_Model_priceOfList_21 rfl (lv_at hl 2 rfl) ?_
      obtain ⟨hi2, h⟩ := h
      refine va_iald hx hb hK hP 26 0 rfl rfl hi2 d_Model_priceOfList_22 ?_
      obtain ⟨hi3, h⟩ := h
      refine va_iald hx hb hK hP 24 0 rfl rfl hi3 d_Model_priceOfList_23 ?_
      refine lv_iadd hx hb d_Model_priceOfList_24 ?_
      refine lv_istore_n (lv' := [(1, .int (x1 + (μ 28 (Int32.toNatClampNeg (μ 31 (Int32.toNatClampNeg x2)))))), (0, .ref (g 0)), (2, .int x2)]) hx hb d_Model_priceOfList_25 rfl hl (by decide) rfl (fun ls hl => ?_)
      refine lv_iinc (v := x2 + 1) (lv' := [(2, .int (x2 + 1)), (1, .int (x1 + (μ 28 (Int32.toNatClampNeg (μ 31 (Int32.toNatClampNeg x2)))))), (0, .ref (g 0))]) hx hb d_Model_priceOfList_26 hl (k := 2) rfl rfl (by decide) rfl (fun ls hl => ?_)
      refine lv_goto (tgt := 4) hx hb d_Model_priceOfList_29 (by decide) ?_
      exact ih (x1 + (μ 28 (Int32.toNatClampNeg (μ 31 (Int32.toNatClampNeg x2))))) (x2 + 1) _ _ _ hP hD hS (lv_sub hl [2, 1, 0] rfl) h
set_option maxHeartbeats 4000000 in
set_option maxRecDepth 100000 in
theorem m_Model_priceOfList {l : Launch} {D : va_G} {k : Nat → ClassId} (N : Nat) (g : Nat → Nat) (μ : St) (post : Int32 → (Unit) → Prop) (h : wp_Model_priceOfList N  μ  post) : Ci l D k y_Model_priceOfList b_Model_priceOfList 3 .int rm_Model_priceOfList [.ref (g 0)] (wModel k g μ) (fun u : Unit => wModel k g μ) post := by
  refine Ci.of (by decide) (Nat.le_of_ble_eq_true rfl) ?_
  intro p e s m below meth c A H locs ls C hP hD hS hl
  obtain ⟨hx, hb, hr, hlk, hml, hown, hts, hK, hA⟩ := id C
  replace hl : lv_has ls 3 [(0, .ref (g 0))] := hl
  unfold wp_Model_priceOfList at h
  refine lv_iconst (v := 0) hx hb d_Model_priceOfList_0 (by decide) ?_
  refine lv_istore_n (lv' := [(1, .int 0), (0, .ref (g 0))]) hx hb d_Model_priceOfList_1 rfl hl (by decide) rfl (fun ls hl => ?_)
  refine lv_iconst (v := 0) hx hb d_Model_priceOfList_2 (by decide) ?_
  refine lv_istore_n (lv' := [(2, .int 0), (1, .int 0), (0, .ref (g 0))]) hx hb d_Model_priceOfList_3 rfl hl (by decide) rfl (fun ls hl => ?_)
  exact t_Model_priceOfList_4 C N μ post   N 0 0 _ _ _ hP hD hS (lv_sub hl [2, 1, 0] rfl) h
set_option maxHeartbeats 4000000 in
set_option maxRecDepth 100000 in
theorem t_Model_costOfUse_120 {p : Program} {l : Launch} {e : Env} {s : State} {m : MethodId} {args : Array Value} {below : List Frame} {meth : Method} {c : Code} {A : Nat → Prop} {D : va_G} {k : Nat → ClassId} {g : Nat → Nat} (C : Cx p s m args meth c D k "PromotionTillModel" b_Model_costOfUse 4 (some .int) A) (N : Nat) (μ : St) (post : Int32 → (Unit) → Prop) :
    ∀ (x2 : Int32) (y0 : Int32) (H : Heap) (locs : List Loc) (ls : Array Slot), va_P D CL (wModel k g μ) H → va_D A (wModel k g μ) → va_S A s.heap H locs → lv_has ls 4 [(0, .ref (g 0)), (2, .int x2)] → wp_Model_costOfUse_120 N μ post x2 y0 → W p l e rm_Model_costOfUse s m args below meth c H locs 0 0 (MQ below (va_Qi post (fun (u : Unit) t => va_P D CL (wModel k g μ) t.heap ∧ va_D A (wModel k g μ)) A) args s rm_Model_costOfUse.cells rm_Model_costOfUse.slots A) (F0 m 120 ls [.int y0]) := by
  obtain ⟨hx, hb, hr, hlk, hml, hown, hts, hK, hA⟩ := id C
  intro x2 y0 H locs ls hP hD hS hl h
  unfold wp_Model_costOfUse_120 at h
  refine lv_istore_n (lv' := [(3, .int y0), (0, .ref (g 0)), (2, .int x2)]) hx hb d_Model_costOfUse_120 rfl hl (by decide) rfl (fun ls hl => ?_)
  refine lv_aload_n hx hb d_Model_costOfUse_121 rfl (lv_at hl 1 rfl) ?_
  refine same_i C hP hD hS (runV (As := []) (rest := []) C hP hD (m_Model_priceOfList N g μ   _ h H.size) kw_1077 kw_1079 kp_39 kw_12 kw_1080 hd_Model_priceOfList ⟨Nat.le_of_ble_eq_true rfl, Nat.le_of_ble_eq_true rfl⟩ ⟨Nat.le_of_ble_eq_true rfl, Nat.le_of_ble_eq_true rfl⟩ 0 rfl rfl rfl rfl hl.1 (Nat.le_of_ble_eq_true rfl) d_Model_costOfUse_122) (fun r21 u20 H locs h hP hD hS => ?_)
  replace hP : va_P D CL (wModel k g μ) H := hP
  replace hD : va_D A (wModel k g μ) := hD
  try dsimp only at h
  refine lv_iload_n hx hb d_Model_costOfUse_125 rfl (lv_at hl 2 rfl) ?_
  refine lv_isub hx hb d_Model_costOfUse_126 ?_
  refine lv_iload_n hx hb d_Model_costOfUse_127 rfl (lv_at hl 2 rfl) ?_
  refine lv_iload_n hx hb d_Model_costOfUse_128 rfl (lv_at hl 0 rfl) ?_
  refine lv_imul hx hb d_Model_costOfUse_129 ?_
  refine lv_bipush (v := 50) hx hb d_Model_costOfUse_130 (by decide) ?_
  refine lv_iadd hx hb d_Model_costOfUse_132 ?_
  refine lv_bipush (v := 100) hx hb d_Model_costOfUse_133 (by decide) ?_
  refine lv_idiv hx hb d_Model_costOfUse_135 (by decide) ?_
  refine lv_iadd hx hb d_Model_costOfUse_136 ?_
  exact ret_i (u := ()) (wf := (fun u : Unit => wModel k g μ)) C hP hD hS (Nat.zero_le _) (Nat.zero_le _) h d_Model_costOfUse_137
set_option maxHeartbeats 4000000 in
set_option maxRecDepth 100000 in
theorem t_Model_costOfUse_75 {p : Program} {l : Launch} {e : Env} {s : State} {m : MethodId} {args : Array Value} {below : List Frame} {meth : Method} {c : Code} {A : Nat → Prop} {D : va_G} {k : Nat → ClassId} {g : Nat → Nat} (C : Cx p s m args meth c D k "PromotionTillModel" b_Model_costOfUse 4 (some .int) A) (N : Nat) (μ : St) (post : Int32 → (Unit) → Prop) (K_40 : Int32 → Int32 → Int32 → Prop) (hK_40 : ∀ (x1 : Int32) (x2 : Int32) (x3 : Int32) (H : Heap) (locs : List Loc) (ls : Array Slot), va_P D CL (wModel k g μ) H → va_D A (wModel k g μ) → va_S A s.heap H locs → lv_has ls 4 [(0, .ref (g 0)), (1, .int x1), (2, .int x2), (3, .int x3)] → K_40 x1 x2 x3 → W p l e rm_Model_costOfUse s m args below meth c H locs 0 0 (MQ below (va_Qi post (fun (u : Unit) t => va_P D CL (wModel k g μ) t.heap ∧ va_D A (wModel k g μ)) A) args s rm_Model_costOfUse.cells rm_Model_costOfUse.slots A) (F0 m 40 ls [])) :
    ∀ (x1 : Int32) (x2 : Int32) (x3 : Int32) (H : Heap) (locs : List Loc) (ls : Array Slot), va_P D CL (wModel k g μ) H → va_D A (wModel k g μ) → va_S A s.heap H locs → lv_has ls 4 [(0, .ref (g 0)), (1, .int x1), (2, .int x2), (3, .int x3)] → wp_Model_costOfUse_75 N μ post K_40 x1 x2 x3 → W p l e rm_Model_costOfUse s m args below meth c H locs 0 0 (MQ below (va_Qi post (fun (u : Unit) t => va_P D CL (wModel k g μ) t.heap ∧ va_D A (wModel k g μ)) A) args s rm_Model_costOfUse.cells rm_Model_costOfUse.slots A) (F0 m 75 ls []) := by
  obtain ⟨hx, hb, hr, hlk, hml, hown, hts, hK, hA⟩ := id C
  intro x1 x2 x3 H locs ls hP hD hS hl h
  unfold wp_Model_costOfUse_75 at h
  refine lv_iinc (v := x3 + 1) (lv' := [(3, .int (x3 + 1)), (0, .ref (g 0)), (1, .int x1), (2, .int x2)]) hx hb d_Model_costOfUse_75 hl (k := 3) rfl rfl (by decide) rfl (fun ls hl => ?_)
  refine lv_goto (tgt := 40) hx hb d_Model_costOfUse_78 (by decide) ?_
  exact hK_40 x1 x2 (x3 + 1) _ _ _ hP hD hS (lv_sub hl [1, 2, 3, 0] rfl) h
set_option maxHeartbeats 4000000 in
set_option maxRecDepth 100000 in
theorem t_Model_costOfUse_40 {p : Program} {l : Launch} {e : Env} {s : State} {m : MethodId} {args : Array Value} {below : List Frame} {meth : Method} {c : Code} {A : Nat → Prop} {D : va_G} {k : Nat → ClassId} {g : Nat → Nat} (C : Cx p s m args meth c D k "PromotionTillModel" b_Model_costOfUse 4 (some .int) A) (N : Nat) (μ : St) (post : Int32 → (Unit) → Prop) :
    ∀ (n : Nat) (x1 : Int32) (x2 : Int32) (x3 : Int32) (H : Heap) (locs : List Loc) (ls : Array Slot), va_P D CL (wModel k g μ) H → va_D A (wModel k g μ) → va_S A s.heap H locs → lv_has ls 4 [(0, .ref (g 0)), (1, .int x1), (2, .int x2), (3, .int x3)] → wp_Model_costOfUse_40 N μ post n x1 x2 x3 → W p l e rm_Model_costOfUse s m args below meth c H locs 0 0 (MQ below (va_Qi post (fun (u : Unit) t => va_P D CL (wModel k g μ) t.heap ∧ va_D A (wModel k g μ)) A) args s rm_Model_costOfUse.cells rm_Model_costOfUse.slots A) (F0 m 40 ls []) := by
  obtain ⟨hx, hb, hr, hlk, hml, hown, hts, hK, hA⟩ := id C
  intro n
  induction n with
  | zero =>
    intro x1 x2 x3 H locs ls hP hD hS hl h
    exact absurd h (by simp [wp_Model_costOfUse_40])
  | succ n ih =>
    intro x1 x2 x3 H locs ls hP hD hS hl h
    rw [wp_Model_costOfUse_40] at h
    refine lv_iload_n hx hb d_Model_costOfUse_40 rfl (lv_at hl 3 rfl) ?_
    refine lv_aload_n hx hb d_Model_costOfUse_41 rfl (lv_at hl 0 rfl) ?_
    refine va_get (D := D) (ci := 8) (v := .int (μ 33 0)) (C := R_Model) (T := F_Model) (N := 40) hx hb hts in_Model hown hK hP 0 rfl rfl 33 (by decide) (hts _ kw_895) (fun _ h9 => h9) rfl d_Model_costOfUse_42 ?_
    refine lv_icmp_ge (tgt := 81) hx hb d_Model_costOfUse_45 (by decide) (fun c7 => ?_) (fun c7 => ?_)
    · replace h := h.1 c7
      refine lv_aload_n hx hb d_Model_costOfUse_81 rfl (lv_at hl 0 rfl) ?_
      refine va_get (D := D) (ci := 8) (v := .ref (g 3)) (C := R_Model) (T := F_Model) (N := 40) hx hb hts in_Model hown hK hP 0 rfl rfl 2 (by decide) (hts _ kw_864) (fun _ h9 => h9) rfl d_Model_costOfUse_82 ?_
      refine lv_iload_n hx hb d_Model_costOfUse_85 rfl (lv_at hl 1 rfl) ?_
      obtain ⟨hi8, h⟩ := h
      refine va_iald hx hb hK hP 3 0 rfl rfl hi8 d_Model_costOfUse_86 ?_
      refine lv_iconst (v := 1) hx hb d_Model_costOfUse_87 (by decide) ?_
      refine lv_icmp_ne (tgt := 98) hx hb d_Model_costOfUse_88 (by decide) (fun c9 => ?_) (fun c9 => ?_)
      · replace h := h.1 c9
        refine lv_aload_n hx hb d_Model_costOfUse_98 rfl (lv_at hl 0 rfl) ?_
        refine va_get (D := D) (ci := 8) (v := .ref (g 5)) (C := R_Model) (T := F_Model) (N := 40) hx hb hts in_Model hown hK hP 0 rfl rfl 4 (by decide) (hts _ kw_866) (fun _ h9 => h9) rfl d_Model_costOfUse_99 ?_
        refine lv_iload_n hx hb d_Model_costOfUse_102 rfl (lv_at hl 1 rfl) ?_
        obtain ⟨hi10, h⟩ := h
        refine va_iald hx hb hK hP 5 0 rfl rfl hi10 d_Model_costOfUse_103 ?_
        refine lv_bipush (v := 100) hx hb d_Model_costOfUse_104 (by decide) ?_
        refine lv_icmp_le (tgt := 114) hx hb d_Model_costOfUse_106 (by decide) (fun c11 => ?_) (fun c11 => ?_)
        · replace h := h.1 c11
          refine lv_aload_n hx hb d_Model_costOfUse_114 rfl (lv_at hl 0 rfl) ?_
          refine va_get (D := D) (ci := 8) (v := .ref (g 5)) (C := R_Model) (T := F_Model) (N := 40) hx hb hts in_Model hown hK hP 0 rfl rfl 4 (by decide) (hts _ kw_866) (fun _ h9 => h9) rfl d_Model_costOfUse_115 ?_
          refine lv_iload_n hx hb d_Model_costOfUse_118 rfl (lv_at hl 1 rfl) ?_
          obtain ⟨hi12, h⟩ := h
          refine va_iald hx hb hK hP 5 0 rfl rfl hi12 d_Model_costOfUse_119 ?_
          exact t_Model_costOfUse_120 C N μ post x2 (μ 4 (Int32.toNatClampNeg x1)) _ _ _ hP hD hS (lv_sub hl [0, 2] rfl) h
        · replace h := h.2 c11
          refine lv_bipush (v := 100) hx hb d_Model_costOfUse_109 (by decide) ?_
          refine lv_goto (tgt := 120) hx hb d_Model_costOfUse_111 (by decide) ?_
          exact t_Model_costOfUse_120 C N μ post x2 100 _ _ _ hP hD hS (lv_sub hl [0, 2] rfl) h
      · replace h := h.2 c9
        refine lv_aload_n hx hb d_Model_costOfUse_91 rfl (lv_at hl 0 rfl) ?_
        refine same_i C hP hD hS (runV (As := []) (rest := []) C hP hD (m_Model_priceOfList N g μ   _ h H.size) kw_1077 kw_1079 kp_39 kw_12 kw_1080 hd_Model_priceOfList ⟨Nat.le_of_ble_eq_true rfl, Nat.le_of_ble_eq_true rfl⟩ ⟨Nat.le_of_ble_eq_true rfl, Nat.le_of_ble_eq_true rfl⟩ 0 rfl rfl rfl rfl hl.1 (Nat.le_of_ble_eq_true rfl) d_Model_costOfUse_92) (fun r14 u13 H locs h hP hD hS => ?_)
        replace hP : va_P D CL (wModel k g μ) H := hP
        replace hD : va_D A (wModel k g μ) := hD
        try dsimp only at h
        refine lv_iload_n hx hb d_Model_costOfUse_95 rfl (lv_at hl 2 rfl) ?_
        refine lv_isub hx hb d_Model_costOfUse_96 ?_
        exact ret_i (u := ()) (wf := (fun u : Unit => wModel k g μ)) C hP hD hS (Nat.zero_le _) (Nat.zero_le _) h d_Model_costOfUse_97
    · replace h := h.2 c7
      refine lv_aload_n hx hb d_Model_costOfUse_48 rfl (lv_at hl 0 rfl) ?_
      refine va_get (D := D) (ci := 8) (v := .ref (g 24)) (C := R_Model) (T := F_Model) (N := 40) hx hb hts in_Model hown hK hP 0 rfl rfl 28 (by decide) (hts _ kw_890) (fun _ h9 => h9) rfl d_Model_costOfUse_49 ?_
      refine lv_aload_n hx hb d_Model_costOfUse_52 rfl (lv_at hl 0 rfl) ?_
      refine va_get (D := D) (ci := 8) (v := .ref (g 26)) (C := R_Model) (T := F_Model) (N := 40) hx hb hts in_Model hown hK hP 0 rfl rfl 31 (by decide) (hts _ kw_893) (fun _ h9 => h9) rfl d_Model_costOfUse_53 ?_
      refine lv_iload_n hx hb d_Model_costOfUse_56 rfl (lv_at hl 3 rfl) ?_
      obtain ⟨hi15, h⟩ := h
      refine va_iald hx hb hK hP 26 0 rfl rfl hi15 d_Model_costOfUse_57 ?_
      obtain ⟨hi16, h⟩ := h
      refine va_iald hx hb hK hP 24 0 rfl rfl hi16 d_Model_costOfUse_58 ?_
      refine lv_iload_n hx hb d_Model_costOfUse_59 rfl (lv_at hl 2 rfl) ?_
      refine lv_icmp_ge (tgt := 75) hx hb d_Model_costOfUse_60 (by decide) (fun c17 => ?_) (fun c17 => ?_)
      · replace h := h.1 c17
        exact t_Model_costOfUse_75 C N μ post (wp_Model_costOfUse_40 N μ post n) ih x1 x2 x3 _ _ _ hP hD hS (lv_sub hl [0, 1, 2, 3] rfl) h
      · replace h := h.2 c17
        refine lv_aload_n hx hb d_Model_costOfUse_63 rfl (lv_at hl 0 rfl) ?_
        refine va_get (D := D) (ci := 8) (v := .ref (g 24)) (C := R_Model) (T := F_Model) (N := 40) hx hb hts in_Model hown hK hP 0 rfl rfl 28 (by decide) (hts _ kw_890) (fun _ h9 => h9) rfl d_Model_costOfUse_64 ?_
        refine lv_aload_n hx hb d_Model_costOfUse_67 rfl (lv_at hl 0 rfl) ?_
        refine va_get (D := D) (ci := 8) (v := .ref (g 26)) (C := R_Model) (T := F_Model) (N := 40) hx hb hts in_Model hown hK hP 0 rfl rfl 31 (by decide) (hts _ kw_893) (fun _ h9 => h9) rfl d_Model_costOfUse_68 ?_
        refine lv_iload_n hx hb d_Model_costOfUse_71 rfl (lv_at hl 3 rfl) ?_
        obtain ⟨hi18, h⟩ := h
        refine va_iald hx hb hK hP 26 0 rfl rfl hi18 d_Model_costOfUse_72 ?_
        obtain ⟨hi19, h⟩ := h
        refine va_iald hx hb hK hP 24 0 rfl rfl hi19 d_Model_costOfUse_73 ?_
        refine lv_istore_n (lv' := [(2, .int (μ 28 (Int32.toNatClampNeg (μ 31 (Int32.toNatClampNeg x3))))), (0, .ref (g 0)), (1, .int x1), (3, .int x3)]) hx hb d_Model_costOfUse_74 rfl hl (by decide) rfl (fun ls hl => ?_)
        exact t_Model_costOfUse_75 C N μ post (wp_Model_costOfUse_40 N μ post n) ih x1 (μ 28 (Int32.toNatClampNeg (μ 31 (Int32.toNatClampNeg x3)))) x3 _ _ _ hP hD hS (lv_sub hl [1, 2, 0, 3] rfl) h
set_option maxHeartbeats 4000000 in
set_option maxRecDepth 100000 in
theorem t_Model_costOfUse_19 {p : Program} {l : Launch} {e : Env} {s : State} {m : MethodId} {args : Array Value} {below : List Frame} {meth : Method} {c : Code} {A : Nat → Prop} {D : va_G} {k : Nat → ClassId} {g : Nat → Nat} (C : Cx p s m args meth c D k "PromotionTillModel" b_Model_costOfUse 4 (some .int) A) (N : Nat) (μ : St) (post : Int32 → (Unit) → Prop) :
    ∀ (x1 : Int32) (H : Heap) (locs : List Loc) (ls : Array Slot), va_P D CL (wModel k g μ) H → va_D A (wModel k g μ) → va_S A s.heap H locs → lv_has ls 4 [(0, .ref (g 0)), (1, .int x1)] → wp_Model_costOfUse_19 N μ post x1 → W p l e rm_Model_costOfUse s m args below meth c H locs 0 0 (MQ below (va_Qi post (fun (u : Unit) t => va_P D CL (wModel k g μ) t.heap ∧ va_D A (wModel k g μ)) A) args s rm_Model_costOfUse.cells rm_Model_costOfUse.slots A) (F0 m 19 ls []) := by
  obtain ⟨hx, hb, hr, hlk, hml, hown, hts, hK, hA⟩ := id C
  intro x1 H locs ls hP hD hS hl h
  unfold wp_Model_costOfUse_19 at h
  refine lv_aload_n hx hb d_Model_costOfUse_19 rfl (lv_at hl 0 rfl) ?_
  refine va_get (D := D) (ci := 8) (v := .ref (g 5)) (C := R_Model) (T := F_Model) (N := 40) hx hb hts in_Model hown hK hP 0 rfl rfl 4 (by decide) (hts _ kw_866) (fun _ h9 => h9) rfl d_Model_costOfUse_20 ?_
  refine lv_iload_n hx hb d_Model_costOfUse_23 rfl (lv_at hl 1 rfl) ?_
  obtain ⟨hi23, h⟩ := h
  refine va_iald hx hb hK hP 5 0 rfl rfl hi23 d_Model_costOfUse_24 ?_
  exact ret_i (u := ()) (wf := (fun u : Unit => wModel k g μ)) C hP hD hS (Nat.zero_le _) (Nat.zero_le _) h d_Model_costOfUse_25
set_option maxHeartbeats 4000000 in
set_option maxRecDepth 100000 in
theorem m_Model_costOfUse {l : Launch} {D : va_G} {k : Nat → ClassId} (N : Nat) (g : Nat → Nat) (μ : St) (x1 : Int32) (post : Int32 → (Unit) → Prop) (h : wp_Model_costOfUse N  μ x1 post) : Ci l D k y_Model_costOfUse b_Model_costOfUse 4 .int rm_Model_costOfUse [.ref (g 0), .int x1] (wModel k g μ) (fun u : Unit => wModel k g μ) post := by
  refine Ci.of (by decide) (Nat.le_of_ble_eq_true rfl) ?_
  intro p e s m below meth c A H locs ls C hP hD hS hl
  obtain ⟨hx, hb, hr, hlk, hml, hown, hts, hK, hA⟩ := id C
  replace hl : lv_has ls 4 [(0, .ref (g 0)), (1, .int x1)] := hl
  unfold wp_Model_costOfUse at h
  refine lv_aload_n hx hb d_Model_costOfUse_0 rfl (lv_at hl 0 rfl) ?_
  refine va_get (D := D) (ci := 8) (v := .ref (g 3)) (C := R_Model) (T := F_Model) (N := 40) hx hb hts in_Model hown hK hP 0 rfl rfl 2 (by decide) (hts _ kw_864) (fun _ h9 => h9) rfl d_Model_costOfUse_1 ?_
  refine lv_iload_n hx hb d_Model_costOfUse_4 rfl (lv_at hl 1 rfl) ?_
  obtain ⟨hi1, h⟩ := h
  refine va_iald hx hb hK hP 3 0 rfl rfl hi1 d_Model_costOfUse_5 ?_
  refine lv_if_eq (tgt := 19) hx hb d_Model_costOfUse_6 (by decide) (fun c2 => ?_) (fun c2 => ?_)
  · replace h := h.1 c2
    exact t_Model_costOfUse_19 C N μ post x1 _ _ _ hP hD hS (lv_sub hl [0, 1] rfl) h
  · replace h := h.2 c2
    refine lv_aload_n hx hb d_Model_costOfUse_9 rfl (lv_at hl 0 rfl) ?_
    refine va_get (D := D) (ci := 8) (v := .ref (g 3)) (C := R_Model) (T := F_Model) (N := 40) hx hb hts in_Model hown hK hP 0 rfl rfl 2 (by decide) (hts _ kw_864) (fun _ h9 => h9) rfl d_Model_costOfUse_10 ?_
    refine lv_iload_n hx hb d_Model_costOfUse_13 rfl (lv_at hl 1 rfl) ?_
    obtain ⟨hi3, h⟩ := h
    refine va_iald hx hb hK hP 3 0 rfl rfl hi3 d_Model_costOfUse_14 ?_
    refine lv_iconst (v := 2) hx hb d_Model_costOfUse_15 (by decide) ?_
    refine lv_icmp_ne (tgt := 26) hx hb d_Model_costOfUse_16 (by decide) (fun c4 => ?_) (fun c4 => ?_)
    · replace h := h.1 c4
      refine lv_aload_n hx hb d_Model_costOfUse_26 rfl (lv_at hl 0 rfl) ?_
      refine va_get (D := D) (ci := 8) (v := .ref (g 24)) (C := R_Model) (T := F_Model) (N := 40) hx hb hts in_Model hown hK hP 0 rfl rfl 28 (by decide) (hts _ kw_890) (fun _ h9 => h9) rfl d_Model_costOfUse_27 ?_
      refine lv_aload_n hx hb d_Model_costOfUse_30 rfl (lv_at hl 0 rfl) ?_
      refine va_get (D := D) (ci := 8) (v := .ref (g 26)) (C := R_Model) (T := F_Model) (N := 40) hx hb hts in_Model hown hK hP 0 rfl rfl 31 (by decide) (hts _ kw_893) (fun _ h9 => h9) rfl d_Model_costOfUse_31 ?_
      refine lv_iconst (v := 0) hx hb d_Model_costOfUse_34 (by decide) ?_
      obtain ⟨hi5, h⟩ := h
      refine va_iald hx hb hK hP 26 0 rfl rfl hi5 d_Model_costOfUse_35 ?_
      obtain ⟨hi6, h⟩ := h
      refine va_iald hx hb hK hP 24 0 rfl rfl hi6 d_Model_costOfUse_36 ?_
      refine lv_istore_n (lv' := [(2, .int (μ 28 (Int32.toNatClampNeg (μ 31 (Int32.toNatClampNeg 0))))), (0, .ref (g 0)), (1, .int x1)]) hx hb d_Model_costOfUse_37 rfl hl (by decide) rfl (fun ls hl => ?_)
      refine lv_iconst (v := 1) hx hb d_Model_costOfUse_38 (by decide) ?_
      refine lv_istore_n (lv' := [(3, .int 1), (2, .int (μ 28 (Int32.toNatClampNeg (μ 31 (Int32.toNatClampNeg 0))))), (0, .ref (g 0)), (1, .int x1)]) hx hb d_Model_costOfUse_39 rfl hl (by decide) rfl (fun ls hl => ?_)
      exact t_Model_costOfUse_40 C N μ post   N x1 (μ 28 (Int32.toNatClampNeg (μ 31 (Int32.toNatClampNeg 0)))) 1 _ _ _ hP hD hS (lv_sub hl [2, 3, 1, 0] rfl) h
    · replace h := h.2 c4
      exact t_Model_costOfUse_19 C N μ post x1 _ _ _ hP hD hS (lv_sub hl [0, 1] rfl) h
set_option maxHeartbeats 4000000 in
set_option maxRecDepth 100000 in
theorem t_Model_behindUse_12 {p : Program} {l : Launch} {e : Env} {s : State} {m : MethodId} {args : Array Value} {below : List Frame} {meth : Method} {c : Code} {A : Nat → Prop} {D : va_G} {k : Nat → ClassId} {g : Nat → Nat} (C : Cx p s m args meth c D k "PromotionTillModel" b_Model_behindUse 5 (some .int) A) (N : Nat) (μ : St) (post : Int32 → (Unit) → Prop) :
    ∀ (n : Nat) (x3 : Int32) (x4 : Int32) (H : Heap) (locs : List Loc) (ls : Array Slot), va_P D CL (wModel k g μ) H → va_D A (wModel k g μ) → va_S A s.heap H locs → lv_has ls 5 [(0, .ref (g 0)), (3, .int x3), (4, .int x4)] → wp_Model_behindUse_12 N μ post n x3 x4 → W p l e rm_Model_behindUse s m args below meth c H locs 0 0 (MQ below (va_Qi post (fun (u : Unit) t => va_P D CL (wModel k g μ) t.heap ∧ va_D A (wModel k g μ)) A) args s rm_Model_behindUse.cells rm_Model_behindUse.slots A) (F0 m 12 ls []) := by
  obtain ⟨hx, hb, hr, hlk, hml, hown, hts, hK, hA⟩ := id C
  intro n
  induction n with
  | zero =>
    intro x3 x4 H locs ls hP hD hS hl h
    exact absurd h (by simp [wp_Model_behindUse_12])
  | succ n ih =>
    intro x3 x4 H locs ls hP hD hS hl h
    rw [wp_Model_behindUse_12] at h
    refine lv_iload hx hb d_Model_behindUse_12 (lv_at hl 2 rfl) ?_
    refine lv_aload_n hx hb d_Model_behindUse_14 rfl (lv_at hl 0 rfl) ?_
    refine va_get (D := D) (ci := 8) (v := .int (μ 33 0)) (C := R_Model) (T := F_Model) (N := 40) hx hb hts in_Model hown hK hP 0 rfl rfl 33 (by decide) (hts _ kw_895) (fun _ h9 => h9) rfl d_Model_behindUse_15 ?_
    refine lv_icmp_ge (tgt := 42) hx hb d_Model_behindUse_18 (by decide) (fun c2 => ?_) (fun c2 => ?_)
    · replace h := h.1 c2
      refine lv_iload_n hx hb d_Model_behindUse_42 rfl (lv_at hl 1 rfl) ?_
      exact ret_i (u := ()) (wf := (fun u : Unit => wModel k g μ)) C hP hD hS (Nat.zero_le _) (Nat.zero_le _) h d_Model_behindUse_43
    · replace h := h.2 c2
      refine lv_iload_n hx hb d_Model_behindUse_21 rfl (lv_at hl 1 rfl) ?_
      refine lv_aload_n hx hb d_Model_behindUse_22 rfl (lv_at hl 0 rfl) ?_
      refine va_get (D := D) (ci := 8) (v := .ref (g 22)) (C := R_Model) (T := F_Model) (N := 40) hx hb hts in_Model hown hK hP 0 rfl rfl 26 (by decide) (hts _ kw_888) (fun _ h9 => h9) rfl d_Model_behindUse_23 ?_
      refine lv_aload_n hx hb d_Model_behindUse_26 rfl (lv_at hl 0 rfl) ?_
      refine va_get (D := D) (ci := 8) (v := .ref (g 26)) (C := R_Model) (T := F_Model) (N := 40) hx hb hts in_Model hown hK hP 0 rfl rfl 31 (by decide) (hts _ kw_893) (fun _ h9 => h9) rfl d_Model_behindUse_27 ?_
      refine lv_iload hx hb d_Model_behindUse_30 (lv_at hl 2 rfl) ?_
      obtain ⟨hi3, h⟩ := h
      refine va_iald hx hb hK hP 26 0 rfl rfl hi3 d_Model_behindUse_32 ?_
      obtain ⟨hi4, h⟩ := h
      refine va_iald hx hb hK hP 22 0 rfl rfl hi4 d_Model_behindUse_33 ?_
      refine lv_isub hx hb d_Model_behindUse_34 ?_
      refine lv_istore_n (lv' := [(3, .int (x3 - (μ 26 (Int32.toNatClampNeg (μ 31 (Int32.toNatClampNeg x4)))))), (0, .ref (g 0)), (4, .int x4)]) hx hb d_Model_behindUse_35 rfl hl (by decide) rfl (fun ls hl => ?_)
      refine lv_iinc (v := x4 + 1) (lv' := [(4, .int (x4 + 1)), (3, .int (x3 - (μ 26 (Int32.toNatClampNeg (μ 31 (Int32.toNatClampNeg x4)))))), (0, .ref (g 0))]) hx hb d_Model_behindUse_36 hl (k := 2) rfl rfl (by decide) rfl (fun ls hl => ?_)
      refine lv_goto (tgt := 12) hx hb d_Model_behindUse_39 (by decide) ?_
      exact ih (x3 - (μ 26 (Int32.toNatClampNeg (μ 31 (Int32.toNatClampNeg x4))))) (x4 + 1) _ _ _ hP hD hS (lv_sub hl [2, 1, 0] rfl) h
set_option maxHeartbeats 4000000 in
set_option maxRecDepth 100000 in
theorem m_Model_behindUse {l : Launch} {D : va_G} {k : Nat → ClassId} (N : Nat) (g : Nat → Nat) (μ : St) (x1 : Int32) (x2 : Int32) (post : Int32 → (Unit) → Prop) (h : wp_Model_behindUse N  μ x1 x2 post) : Ci l D k y_Model_behindUse b_Model_behindUse 5 .int rm_Model_behindUse [.ref (g 0), .int x1, .int x2] (wModel k g μ) (fun u : Unit => wModel k g μ) post := by
  refine Ci.of (by decide) (Nat.le_of_ble_eq_true rfl) ?_
  intro p e s m below meth c A H locs ls C hP hD hS hl
  obtain ⟨hx, hb, hr, hlk, hml, hown, hts, hK, hA⟩ := id C
  replace hl : lv_has ls 5 [(0, .ref (g 0)), (1, .int x1), (2, .int x2)] := hl
  unfold wp_Model_behindUse at h
  refine lv_iload_n hx hb d_Model_behindUse_0 rfl (lv_at hl 1 rfl) ?_
  refine lv_aload_n hx hb d_Model_behindUse_1 rfl (lv_at hl 0 rfl) ?_
  refine va_get (D := D) (ci := 8) (v := .ref (g 23)) (C := R_Model) (T := F_Model) (N := 40) hx hb hts in_Model hown hK hP 0 rfl rfl 27 (by decide) (hts _ kw_889) (fun _ h9 => h9) rfl d_Model_behindUse_2 ?_
  refine lv_iload_n hx hb d_Model_behindUse_5 rfl (lv_at hl 2 rfl) ?_
  obtain ⟨hi1, h⟩ := h
  refine va_iald hx hb hK hP 23 0 rfl rfl hi1 d_Model_behindUse_6 ?_
  refine lv_isub hx hb d_Model_behindUse_7 ?_
  refine lv_istore_n (lv' := [(3, .int (x1 - (μ 27 (Int32.toNatClampNeg x2)))), (0, .ref (g 0)), (1, .int x1), (2, .int x2)]) hx hb d_Model_behindUse_8 rfl hl (by decide) rfl (fun ls hl => ?_)
  refine lv_iconst (v := 0) hx hb d_Model_behindUse_9 (by decide) ?_
  refine lv_istore (lv' := [(4, .int 0), (3, .int (x1 - (μ 27 (Int32.toNatClampNeg x2)))), (0, .ref (g 0)), (1, .int x1), (2, .int x2)]) hx hb d_Model_behindUse_10 hl (by decide) rfl (fun ls hl => ?_)
  exact t_Model_behindUse_12 C N μ post   N (x1 - (μ 27 (Int32.toNatClampNeg x2))) 0 _ _ _ hP hD hS (lv_sub hl [2, 1, 0] rfl) h
set_option maxHeartbeats 4000000 in
set_option maxRecDepth 100000 in
theorem t_Model_numberAll_202 {p : Program} {l : Launch} {e : Env} {s : State} {m : MethodId} {args : Array Value} {below : List Frame} {meth : Method} {c : Code} {A : Nat → Prop} {D : va_G} {k : Nat → ClassId} {g : Nat → Nat} (C : Cx p s m args meth c D k "PromotionTillModel" b_Model_numberAll 3 none A) (N : Nat) (post : ((St)) → Prop) (K_127 : Int32 → (St) → Prop) (hK_127 : ∀ (x1 : Int32) (μ : (St)) (H : Heap) (locs : List Loc) (ls : Array Slot), va_P D CL (wModel k g μ) H → va_D A (wModel k g μ) → va_S A s.heap H locs → lv_has ls 3 [(0, .ref (g 0)), (1, .int x1)] → K_127 x1 μ → W p l e rm_Model_numberAll s m args below meth c H locs 0 0 (MQ below (va_Qv post (fun (u : (St)) t => va_P D CL (wModel k g u) t.heap ∧ va_D A (wModel k g u)) A) args s rm_Model_numberAll.cells rm_Model_numberAll.slots A) (F0 m 127 ls [])) :
    ∀ (x1 : Int32) (μ : (St)) (H : Heap) (locs : List Loc) (ls : Array Slot), va_P D CL (wModel k g μ) H → va_D A (wModel k g μ) → va_S A s.heap H locs → lv_has ls 3 [(0, .ref (g 0)), (1, .int x1)] → wp_Model_numberAll_202 N post K_127 x1 μ → W p l e rm_Model_numberAll s m args below meth c H locs 0 0 (MQ below (va_Qv post (fun (u : (St)) t => va_P D CL (wModel k g u) t.heap ∧ va_D A (wModel k g u)) A) args s rm_Model_numberAll.cells rm_Model_numberAll.slots A) (F0 m 202 ls []) := by
  obtain ⟨hx, hb, hr, hlk, hml, hown, hts, hK, hA⟩ := id C
  intro x1 μ H locs ls hP hD hS hl h
  unfold wp_Model_numberAll_202 at h
  refine lv_iinc (v := x1 + 1) (lv' := [(1, .int (x1 + 1)), (0, .ref (g 0))]) hx hb d_Model_numberAll_202 hl (k := 1) rfl rfl (by decide) rfl (fun ls hl => ?_)
  refine lv_goto (tgt := 127) hx hb d_Model_numberAll_205 (by decide) ?_
  exact hK_127 (x1 + 1) μ _ _ _ hP hD hS (lv_sub hl [1, 0] rfl) h
set_option maxHeartbeats 4000000 in
set_option maxRecDepth 100000 in
theorem t_Model_numberAll_119 {p : Program} {l : Launch} {e : Env} {s : State} {m : MethodId} {args : Array Value} {below : List Frame} {meth : Method} {c : Code} {A : Nat → Prop} {D : va_G} {k : Nat → ClassId} {g : Nat → Nat} (C : Cx p s m args meth c D k "PromotionTillModel" b_Model_numberAll 3 none A) (N : Nat) (post : ((St)) → Prop) (K_7 : Int32 → (St) → Prop) (hK_7 : ∀ (x1 : Int32) (μ : (St)) (H : Heap) (locs : List Loc) (ls : Array Slot), va_P D CL (wModel k g μ) H → va_D A (wModel k g μ) → va_S A s.heap H locs → lv_has ls 3 [(0, .ref (g 0)), (1, .int x1)] → K_7 x1 μ → W p l e rm_Model_numberAll s m args below meth c H locs 0 0 (MQ below (va_Qv post (fun (u : (St)) t => va_P D CL (wModel k g u) t.heap ∧ va_D A (wModel k g u)) A) args s rm_Model_numberAll.cells rm_Model_numberAll.slots A) (F0 m 7 ls [])) :
    ∀ (x1 : Int32) (μ : (St)) (H : Heap) (locs : List Loc) (ls : Array Slot), va_P D CL (wModel k g μ) H → va_D A (wModel k g μ) → va_S A s.heap H locs → lv_has ls 3 [(0, .ref (g 0)), (1, .int x1)] → wp_Model_numberAll_119 N post K_7 x1 μ → W p l e rm_Model_numberAll s m args below meth c H locs 0 0 (MQ below (va_Qv post (fun (u : (St)) t => va_P D CL (wModel k g u) t.heap ∧ va_D A (wModel k g u)) A) args s rm_Model_numberAll.cells rm_Model_numberAll.slots A) (F0 m 119 ls []) := by
  obtain ⟨hx, hb, hr, hlk, hml, hown, hts, hK, hA⟩ := id C
  intro x1 μ H locs ls hP hD hS hl h
  unfold wp_Model_numberAll_119 at h
  refine lv_iinc (v := x1 + 1) (lv' := [(1, .int (x1 + 1)), (0, .ref (g 0))]) hx hb d_Model_numberAll_119 hl (k := 1) rfl rfl (by decide) rfl (fun ls hl => ?_)
  refine lv_goto (tgt := 7) hx hb d_Model_numberAll_122 (by decide) ?_
  exact hK_7 (x1 + 1) μ _ _ _ hP hD hS (lv_sub hl [1, 0] rfl) h
set_option maxHeartbeats 4000000 in
set_option maxRecDepth 100000 in
theorem t_Model_numberAll_69 {p : Program} {l : Launch} {e : Env} {s : State} {m : MethodId} {args : Array Value} {below : List Frame} {meth : Method} {c : Code} {A : Nat → Prop} {D : va_G} {k : Nat → ClassId} {g : Nat → Nat} (C : Cx p s m args meth c D k "PromotionTillModel" b_Model_numberAll 3 none A) (N : Nat) (post : ((St)) → Prop) (K_29 : Int32 → Int32 → (St) → Prop) (hK_29 : ∀ (x1 : Int32) (x2 : Int32) (μ : (St)) (H : Heap) (locs : List Loc) (ls : Array Slot), va_P D CL (wModel k g μ) H → va_D A (wModel k g μ) → va_S A s.heap H locs → lv_has ls 3 [(0, .ref (g 0)), (1, .int x1), (2, .int x2)] → K_29 x1 x2 μ → W p l e rm_Model_numberAll s m args below meth c H locs 0 0 (MQ below (va_Qv post (fun (u : (St)) t => va_P D CL (wModel k g u) t.heap ∧ va_D A (wModel k g u)) A) args s rm_Model_numberAll.cells rm_Model_numberAll.slots A) (F0 m 29 ls [])) :
    ∀ (x1 : Int32) (x2 : Int32) (μ : (St)) (H : Heap) (locs : List Loc) (ls : Array Slot), va_P D CL (wModel k g μ) H → va_D A (wModel k g μ) → va_S A s.heap H locs → lv_has ls 3 [(0, .ref (g 0)), (1, .int x1), (2, .int x2)] → wp_Model_numberAll_69 N post K_29 x1 x2 μ → W p l e rm_Model_numberAll s m args below meth c H locs 0 0 (MQ below (va_Qv post (fun (u : (St)) t => va_P D CL (wModel k g u) t.heap ∧ va_D A (wModel k g u)) A) args s rm_Model_numberAll.cells rm_Model_numberAll.slots A) (F0 m 69 ls []) := by
  obtain ⟨hx, hb, hr, hlk, hml, hown, hts, hK, hA⟩ := id C
  intro x1 x2 μ H locs ls hP hD hS hl h
  unfold wp_Model_numberAll_69 at h
  refine lv_iinc (v := x2 + 1) (lv' := [(2, .int (x2 + 1)), (0, .ref (g 0)), (1, .int x1)]) hx hb d_Model_numberAll_69 hl (k := 2) rfl rfl (by decide) rfl (fun ls hl => ?_)
  refine lv_goto (tgt := 29) hx hb d_Model_numberAll_72 (by decide) ?_
  exact hK_29 x1 (x2 + 1) μ _ _ _ hP hD hS (lv_sub hl [1, 2, 0] rfl) h
set_option maxHeartbeats 4000000 in
set_option maxRecDepth 100000 in
theorem t_Model_numberAll_127 {p : Program} {l : Launch} {e : Env} {s : State} {m : MethodId} {args : Array Value} {below : List Frame} {meth : Method} {c : Code} {A : Nat → Prop} {D : va_G} {k : Nat → ClassId} {g : Nat → Nat} (C : Cx p s m args meth c D k "PromotionTillModel" b_Model_numberAll 3 none A) (N : Nat) (post : ((St)) → Prop) :
    ∀ (n : Nat) (x1 : Int32) (μ : (St)) (H : Heap) (locs : List Loc) (ls : Array Slot), va_P D CL (wModel k g μ) H → va_D A (wModel k g μ) → va_S A s.heap H locs → lv_has ls 3 [(0, .ref (g 0)), (1, .int x1)] → wp_Model_numberAll_127 N post n x1 μ → W p l e rm_Model_numberAll s m args below meth c H locs 0 0 (MQ below (va_Qv post (fun (u : (St)) t => va_P D CL (wModel k g u) t.heap ∧ va_D A (wModel k g u)) A) args s rm_Model_numberAll.cells rm_Model_numberAll.slots A) (F0 m 127 ls []) := by
  obtain ⟨hx, hb, hr, hlk, hml, hown, hts, hK, hA⟩ := id C
  intro n
  induction n with
  | zero =>
    intro x1 μ H locs ls hP hD hS hl h
    exact absurd h (by simp [wp_Model_numberAll_127])
  | succ n ih =>
    intro x1 μ H locs ls hP hD hS hl h
    rw [wp_Model_numberAll_127] at h
    refine lv_iload_n hx hb d_Model_numberAll_127 rfl (lv_at hl 1 rfl) ?_
    refine lv_bipush (v := 6) hx hb d_Model_numberAll_128 (by decide) ?_
    refine lv_icmp_ge (tgt := 208) hx hb d_Model_numberAll_130 (by decide) (fun c25 => ?_) (fun c25 => ?_)
    · replace h := h.1 c25
      exact ret_v (u := μ) (wf := (fun u : (St) => wModel k g u)) C hP hD hS (Nat.zero_le _) (Nat.zero_le _) h d_Model_numberAll_208
    · replace h := h.2 c25
      refine lv_bipush (v := 6) hx hb d_Model_numberAll_133 (by decide) ?_
      refine lv_aload_n hx hb d_Model_numberAll_135 rfl (lv_at hl 0 rfl) ?_
      refine va_get (D := D) (ci := 8) (v := .int (μ 23 0)) (C := R_Model) (T := F_Model) (N := 40) hx hb hts in_Model hown hK hP 0 rfl rfl 23 (by decide) (hts _ kw_885) (fun _ h9 => h9) rfl d_Model_numberAll_136 ?_
      refine lv_imul hx hb d_Model_numberAll_139 ?_
      refine lv_iload_n hx hb d_Model_numberAll_140 rfl (lv_at hl 1 rfl) ?_
      refine lv_iadd hx hb d_Model_numberAll_141 ?_
      refine lv_istore_n (lv' := [(2, .int ((6 * (μ 23 0)) + x1)), (0, .ref (g 0)), (1, .int x1)]) hx hb d_Model_numberAll_142 rfl hl (by decide) rfl (fun ls hl => ?_)
      refine lv_aload_n hx hb d_Model_numberAll_143 rfl (lv_at hl 1 rfl) ?_
      refine va_get (D := D) (ci := 8) (v := .ref (g 23)) (C := R_Model) (T := F_Model) (N := 40) hx hb hts in_Model hown hK hP 0 rfl rfl 27 (by decide) (hts _ kw_889) (fun _ h9 => h9) rfl d_Model_numberAll_144 ?_
      refine lv_iload_n hx hb d_Model_numberAll_147 rfl (lv_at hl 2 rfl) ?_
      refine lv_iconst (v := 0) hx hb d_Model_numberAll_148 (by decide) ?_
      obtain ⟨hi26, h⟩ := h
      refine va_iast hx hb hK hP hD hS 23 0 rfl rfl hi26 d_Model_numberAll_149 (fun H locs hP hD hS => ?_)
      obtain ⟨μ27, eμ27⟩ : ∃ z, z = s2 μ 27 (Int32.toNatClampNeg x1) 0 := ⟨_, rfl⟩
      replace hP : va_P D CL (wModel k g μ27) H := by rw [eμ27]; exact hP
      replace hD : va_D A (wModel k g μ27) := by rw [eμ27]; exact hD
      replace h := h μ27 eμ27
      refine lv_aload_n hx hb d_Model_numberAll_150 rfl (lv_at hl 1 rfl) ?_
      refine va_get (D := D) (ci := 8) (v := .int (μ27 22 0)) (C := R_Model) (T := F_Model) (N := 40) hx hb hts in_Model hown hK hP 0 rfl rfl 22 (by decide) (hts _ kw_884) (fun _ h9 => h9) rfl d_Model_numberAll_151 ?_
      refine lv_if_le (tgt := 202) hx hb d_Model_numberAll_154 (by decide) (fun c28 => ?_) (fun c28 => ?_)
      · replace h := h.1 c28
        exact t_Model_numberAll_202 C N post (wp_Model_numberAll_127 N post n) ih x1 μ27 _ _ _ hP hD hS (lv_sub hl [1, 2] rfl) h
      · replace h := h.2 c28
        refine lv_aload_n hx hb d_Model_numberAll_157 rfl (lv_at hl 1 rfl) ?_
        refine va_get (D := D) (ci := 8) (v := .ref (g 7)) (C := R_Model) (T := F_Model) (N := 40) hx hb hts in_Model hown hK hP 0 rfl rfl 6 (by decide) (hts _ kw_868) (fun _ h9 => h9) rfl d_Model_numberAll_158 ?_
        refine lv_iload_n hx hb d_Model_numberAll_161 rfl (lv_at hl 0 rfl) ?_
        obtain ⟨hi29, h⟩ := h
        refine va_zald hx hb hK hP 7 1 rfl rfl hi29 d_Model_numberAll_162 ?_
        refine lv_if_eq (tgt := 202) hx hb d_Model_numberAll_163 (by decide) (fun c30 => ?_) (fun c30 => ?_)
        · replace h := h.1 c30
          exact t_Model_numberAll_202 C N post (wp_Model_numberAll_127 N post n) ih x1 μ27 _ _ _ hP hD hS (lv_sub hl [1, 2] rfl) h
        · replace h := h.2 c30
          refine lv_aload_n hx hb d_Model_numberAll_166 rfl (lv_at hl 1 rfl) ?_
          refine va_get (D := D) (ci := 8) (v := .ref (g 6)) (C := R_Model) (T := F_Model) (N := 40) hx hb hts in_Model hown hK hP 0 rfl rfl 5 (by decide) (hts _ kw_867) (fun _ h9 => h9) rfl d_Model_numberAll_167 ?_
          refine lv_iload_n hx hb d_Model_numberAll_170 rfl (lv_at hl 0 rfl) ?_
          obtain ⟨hi31, h⟩ := h
          refine va_iald hx hb hK hP 6 0 rfl rfl hi31 d_Model_numberAll_171 ?_
          refine lv_if_le (tgt := 202) hx hb d_Model_numberAll_172 (by decide) (fun c32 => ?_) (fun c32 => ?_)
          · replace h := h.1 c32
            exact t_Model_numberAll_202 C N post (wp_Model_numberAll_127 N post n) ih x1 μ27 _ _ _ hP hD hS (lv_sub hl [1, 2] rfl) h
          · replace h := h.2 c32
            refine lv_aload_n hx hb d_Model_numberAll_175 rfl (lv_at hl 1 rfl) ?_
            refine va_get (D := D) (ci := 8) (v := .ref (g 23)) (C := R_Model) (T := F_Model) (N := 40) hx hb hts in_Model hown hK hP 0 rfl rfl 27 (by decide) (hts _ kw_889) (fun _ h9 => h9) rfl d_Model_numberAll_176 ?_
            refine lv_iload_n hx hb d_Model_numberAll_179 rfl (lv_at hl 2 rfl) ?_
            refine lv_aload_n hx hb d_Model_numberAll_180 rfl (lv_at hl 1 rfl) ?_
            refine va_get (D := D) (ci := 8) (v := .int (μ27 29 0)) (C := R_Model) (T := F_Model) (N := 40) hx hb hts in_Model hown hK hP 0 rfl rfl 29 (by decide) (hts _ kw_891) (fun _ h9 => h9) rfl d_Model_numberAll_181 ?_
            obtain ⟨hi33, h⟩ := h
            refine va_iast hx hb hK hP hD hS 23 0 rfl rfl hi33 d_Model_numberAll_184 (fun H locs hP hD hS => ?_)
            obtain ⟨μ34, eμ34⟩ : ∃ z, z = s2 μ27 27 (Int32.toNatClampNeg x1) (μ27 29 0) := ⟨_, rfl⟩
            replace hP : va_P D CL (wModel k g μ34) H := by rw [eμ34]; exact hP
            replace hD : va_D A (wModel k g μ34) := by rw [eμ34]; exact hD
            replace h := h μ34 eμ34
            refine lv_aload_n hx hb d_Model_numberAll_185 rfl (lv_at hl 1 rfl) ?_
            refine lv_dup hx hb d_Model_numberAll_186 rfl ?_
            refine va_get (D := D) (ci := 8) (v := .int (μ34 29 0)) (C := R_Model) (T := F_Model) (N := 40) hx hb hts in_Model hown hK hP 0 rfl rfl 29 (by decide) (hts _ kw_891) (fun _ h9 => h9) rfl d_Model_numberAll_187 ?_
            refine lv_aload_n hx hb d_Model_numberAll_190 rfl (lv_at hl 1 rfl) ?_
            refine va_get (D := D) (ci := 8) (v := .ref (g 6)) (C := R_Model) (T := F_Model) (N := 40) hx hb hts in_Model hown hK hP 0 rfl rfl 5 (by decide) (hts _ kw_867) (fun _ h9 => h9) rfl d_Model_numberAll_191 ?_
            refine lv_iload_n hx hb d_Model_numberAll_194 rfl (lv_at hl 0 rfl) ?_
            obtain ⟨hi35, h⟩ := h
            refine va_iald hx hb hK hP 6 0 rfl rfl hi35 d_Model_numberAll_195 ?_
            refine lv_iconst (v := 1) hx hb d_Model_numberAll_196 (by decide) ?_
            refine lv_iadd hx hb d_Model_numberAll_197 ?_
            refine lv_imul hx hb d_Model_numberAll_198 ?_
            refine va_put (D := D) (ci := 8) (v := .int ((μ34 29 0) * ((μ34 5 (Int32.toNatClampNeg ((6 * (μ 23 0)) + x1))) + 1))) (ty := .int) (C := R_Model) (T := F_Model) (N := 40) hx hb hts in_Model t_Model tt_Model n_Model hown hK hP hD hS 0 rfl rfl 29 (by decide) (hts _ kw_891) (fun _ h9 => h9) rfl (by decide +kernel) rfl rfl (Nat.le_of_ble_eq_true rfl) d_Model_numberAll_199 (fun H locs hP hD hS => ?_)
            obtain ⟨μ36, eμ36⟩ : ∃ z, z = s2 μ34 29 0 ((μ34 29 0) * ((μ34 5 (Int32.toNatClampNeg ((6 * (μ 23 0)) + x1))) + 1)) := ⟨_, rfl⟩
            replace hP : va_P D CL (wModel k g μ36) H := by rw [eμ36]; exact hP
            replace hD : va_D A (wModel k g μ36) := by rw [eμ36]; exact hD
            replace h := h μ36 eμ36
            exact t_Model_numberAll_202 C N post (wp_Model_numberAll_127 N post n) ih x1 μ36 _ _ _ hP hD hS (lv_sub hl [1, 2] rfl) h
set_option maxHeartbeats 4000000 in
set_option maxRecDepth 100000 in
theorem t_Model_numberAll_29 {p : Program} {l : Launch} {e : Env} {s : State} {m : MethodId} {args : Array Value} {below : List Frame} {meth : Method} {c : Code} {A : Nat → Prop} {D : va_G} {k : Nat → ClassId} {g : Nat → Nat} (C : Cx p s m args meth c D k "PromotionTillModel" b_Model_numberAll 3 none A) (N : Nat) (post : ((St)) → Prop) (K_7 : Int32 → (St) → Prop) (hK_7 : ∀ (x1 : Int32) (μ : (St)) (H : Heap) (locs : List Loc) (ls : Array Slot), va_P D CL (wModel k g μ) H → va_D A (wModel k g μ) → va_S A s.heap H locs → lv_has ls 3 [(0, .ref (g 0)), (1, .int x1)] → K_7 x1 μ → W p l e rm_Model_numberAll s m args below meth c H locs 0 0 (MQ below (va_Qv post (fun (u : (St)) t => va_P D CL (wModel k g u) t.heap ∧ va_D A (wModel k g u)) A) args s rm_Model_numberAll.cells rm_Model_numberAll.slots A) (F0 m 7 ls [])) :
    ∀ (n : Nat) (x1 : Int32) (x2 : Int32) (μ : (St)) (H : Heap) (locs : List Loc) (ls : Array Slot), va_P D CL (wModel k g μ) H → va_D A (wModel k g μ) → va_S A s.heap H locs → lv_has ls 3 [(0, .ref (g 0)), (1, .int x1), (2, .int x2)] → wp_Model_numberAll_29 N post K_7 n x1 x2 μ → W p l e rm_Model_numberAll s m args below meth c H locs 0 0 (MQ below (va_Qv post (fun (u : (St)) t => va_P D CL (wModel k g u) t.heap ∧ va_D A (wModel k g u)) A) args s rm_Model_numberAll.cells rm_Model_numberAll.slots A) (F0 m 29 ls []) := by
  obtain ⟨hx, hb, hr, hlk, hml, hown, hts, hK, hA⟩ := id C
  intro n
  induction n with
  | zero =>
    intro x1 x2 μ H locs ls hP hD hS hl h
    exact absurd h (by simp [wp_Model_numberAll_29])
  | succ n ih =>
    intro x1 x2 μ H locs ls hP hD hS hl h
    rw [wp_Model_numberAll_29] at h
    refine lv_iload_n hx hb d_Model_numberAll_29 rfl (lv_at hl 2 rfl) ?_
    refine lv_aload_n hx hb d_Model_numberAll_30 rfl (lv_at hl 0 rfl) ?_
    refine va_get (D := D) (ci := 8) (v := .int (μ 22 0)) (C := R_Model) (T := F_Model) (N := 40) hx hb hts in_Model hown hK hP 0 rfl rfl 22 (by decide) (hts _ kw_884) (fun _ h9 => h9) rfl d_Model_numberAll_31 ?_
    refine lv_icmp_ge (tgt := 75) hx hb d_Model_numberAll_34 (by decide) (fun c7 => ?_) (fun c7 => ?_)
    · replace h := h.1 c7
      refine lv_aload_n hx hb d_Model_numberAll_75 rfl (lv_at hl 0 rfl) ?_
      refine va_get (D := D) (ci := 8) (v := .ref (g 20)) (C := R_Model) (T := F_Model) (N := 40) hx hb hts in_Model hown hK hP 0 rfl rfl 24 (by decide) (hts _ kw_886) (fun _ h9 => h9) rfl d_Model_numberAll_76 ?_
      refine lv_iload_n hx hb d_Model_numberAll_79 rfl (lv_at hl 1 rfl) ?_
      obtain ⟨hi8, h⟩ := h
      refine va_iald hx hb hK hP 20 0 rfl rfl hi8 d_Model_numberAll_80 ?_
      refine lv_if_le (tgt := 119) hx hb d_Model_numberAll_81 (by decide) (fun c9 => ?_) (fun c9 => ?_)
      · replace h := h.1 c9
        exact t_Model_numberAll_119 C N post (K_7) hK_7 x1 μ _ _ _ hP hD hS (lv_sub hl [0, 1] rfl) h
      · replace h := h.2 c9
        refine lv_aload_n hx hb d_Model_numberAll_84 rfl (lv_at hl 0 rfl) ?_
        refine lv_iload_n hx hb d_Model_numberAll_85 rfl (lv_at hl 1 rfl) ?_
        refine same_i C hP hD hS (runV (As := [.int x1]) (rest := []) C hP hD (m_Model_looksAt N g μ x1  _ h H.size) kw_1020 kw_1022 kp_27 kw_12 kw_1023 hd_Model_looksAt ⟨Nat.le_of_ble_eq_true rfl, Nat.le_of_ble_eq_true rfl⟩ ⟨Nat.le_of_ble_eq_true rfl, Nat.le_of_ble_eq_true rfl⟩ 0 rfl rfl rfl rfl hl.1 (Nat.le_of_ble_eq_true rfl) d_Model_numberAll_86) (fun r11 u10 H locs h hP hD hS => ?_)
        replace hP : va_P D CL (wModel k g μ) H := hP
        replace hD : va_D A (wModel k g μ) := hD
        try dsimp only at h
        refine lv_if_eq (tgt := 119) hx hb d_Model_numberAll_89 (by decide) (fun c12 => ?_) (fun c12 => ?_)
        · replace h := h.1 c12
          exact t_Model_numberAll_119 C N post (K_7) hK_7 x1 μ _ _ _ hP hD hS (lv_sub hl [0, 1] rfl) h
        · replace h := h.2 c12
          refine lv_aload_n hx hb d_Model_numberAll_92 rfl (lv_at hl 0 rfl) ?_
          refine va_get (D := D) (ci := 8) (v := .ref (g 22)) (C := R_Model) (T := F_Model) (N := 40) hx hb hts in_Model hown hK hP 0 rfl rfl 26 (by decide) (hts _ kw_888) (fun _ h9 => h9) rfl d_Model_numberAll_93 ?_
          refine lv_iload_n hx hb d_Model_numberAll_96 rfl (lv_at hl 1 rfl) ?_
          refine lv_aload_n hx hb d_Model_numberAll_97 rfl (lv_at hl 0 rfl) ?_
          refine va_get (D := D) (ci := 8) (v := .int (μ 29 0)) (C := R_Model) (T := F_Model) (N := 40) hx hb hts in_Model hown hK hP 0 rfl rfl 29 (by decide) (hts _ kw_891) (fun _ h9 => h9) rfl d_Model_numberAll_98 ?_
          obtain ⟨hi13, h⟩ := h
          refine va_iast hx hb hK hP hD hS 22 0 rfl rfl hi13 d_Model_numberAll_101 (fun H locs hP hD hS => ?_)
          obtain ⟨μ14, eμ14⟩ : ∃ z, z = s2 μ 26 (Int32.toNatClampNeg x1) (μ 29 0) := ⟨_, rfl⟩
          replace hP : va_P D CL (wModel k g μ14) H := by rw [eμ14]; exact hP
          replace hD : va_D A (wModel k g μ14) := by rw [eμ14]; exact hD
          replace h := h μ14 eμ14
          refine lv_aload_n hx hb d_Model_numberAll_102 rfl (lv_at hl 0 rfl) ?_
          refine lv_dup hx hb d_Model_numberAll_103 rfl ?_
          refine va_get (D := D) (ci := 8) (v := .int (μ14 29 0)) (C := R_Model) (T := F_Model) (N := 40) hx hb hts in_Model hown hK hP 0 rfl rfl 29 (by decide) (hts _ kw_891) (fun _ h9 => h9) rfl d_Model_numberAll_104 ?_
          refine lv_aload_n hx hb d_Model_numberAll_107 rfl (lv_at hl 0 rfl) ?_
          refine va_get (D := D) (ci := 8) (v := .ref (g 20)) (C := R_Model) (T := F_Model) (N := 40) hx hb hts in_Model hown hK hP 0 rfl rfl 24 (by decide) (hts _ kw_886) (fun _ h9 => h9) rfl d_Model_numberAll_108 ?_
          refine lv_iload_n hx hb d_Model_numberAll_111 rfl (lv_at hl 1 rfl) ?_
          obtain ⟨hi15, h⟩ := h
          refine va_iald hx hb hK hP 20 0 rfl rfl hi15 d_Model_numberAll_112 ?_
          refine lv_iconst (v := 1) hx hb d_Model_numberAll_113 (by decide) ?_
          refine lv_iadd hx hb d_Model_numberAll_114 ?_
          refine lv_imul hx hb d_Model_numberAll_115 ?_
          refine va_put (D := D) (ci := 8) (v := .int ((μ14 29 0) * ((μ14 24 (Int32.toNatClampNeg x1)) + 1))) (ty := .int) (C := R_Model) (T := F_Model) (N := 40) hx hb hts in_Model t_Model tt_Model n_Model hown hK hP hD hS 0 rfl rfl 29 (by decide) (hts _ kw_891) (fun _ h9 => h9) rfl (by decide +kernel) rfl rfl (Nat.le_of_ble_eq_true rfl) d_Model_numberAll_116 (fun H locs hP hD hS => ?_)
          obtain ⟨μ16, eμ16⟩ : ∃ z, z = s2 μ14 29 0 ((μ14 29 0) * ((μ14 24 (Int32.toNatClampNeg x1)) + 1)) := ⟨_, rfl⟩
          replace hP : va_P D CL (wModel k g μ16) H := by rw [eμ16]; exact hP
          replace hD : va_D A (wModel k g μ16) := by rw [eμ16]; exact hD
          replace h := h μ16 eμ16
          exact t_Model_numberAll_119 C N post (K_7) hK_7 x1 μ16 _ _ _ hP hD hS (lv_sub hl [0, 1] rfl) h
    · replace h := h.2 c7
      refine lv_aload_n hx hb d_Model_numberAll_37 rfl (lv_at hl 0 rfl) ?_
      refine va_get (D := D) (ci := 8) (v := .ref (g 18)) (C := R_Model) (T := F_Model) (N := 40) hx hb hts in_Model hown hK hP 0 rfl rfl 20 (by decide) (hts _ kw_882) (fun _ h9 => h9) rfl d_Model_numberAll_38 ?_
      refine lv_iload_n hx hb d_Model_numberAll_41 rfl (lv_at hl 2 rfl) ?_
      obtain ⟨hi17, h⟩ := h
      refine va_iald hx hb hK hP 18 0 rfl rfl hi17 d_Model_numberAll_42 ?_
      refine lv_iload_n hx hb d_Model_numberAll_43 rfl (lv_at hl 1 rfl) ?_
      refine lv_icmp_ne (tgt := 69) hx hb d_Model_numberAll_44 (by decide) (fun c18 => ?_) (fun c18 => ?_)
      · replace h := h.1 c18
        exact t_Model_numberAll_69 C N post (wp_Model_numberAll_29 N post K_7 n) ih x1 x2 μ _ _ _ hP hD hS (lv_sub hl [0, 1, 2] rfl) h
      · replace h := h.2 c18
        refine lv_aload_n hx hb d_Model_numberAll_47 rfl (lv_at hl 0 rfl) ?_
        refine va_get (D := D) (ci := 8) (v := .ref (g 20)) (C := R_Model) (T := F_Model) (N := 40) hx hb hts in_Model hown hK hP 0 rfl rfl 24 (by decide) (hts _ kw_886) (fun _ h9 => h9) rfl d_Model_numberAll_48 ?_
        refine lv_iload_n hx hb d_Model_numberAll_51 rfl (lv_at hl 1 rfl) ?_
        refine lv_dup2_11 hx hb d_Model_numberAll_52 rfl rfl ?_
        obtain ⟨hi19, h⟩ := h
        refine va_iald hx hb hK hP 20 0 rfl rfl hi19 d_Model_numberAll_53 ?_
        refine lv_iconst (v := 1) hx hb d_Model_numberAll_54 (by decide) ?_
        refine lv_iadd hx hb d_Model_numberAll_55 ?_
        obtain ⟨hi20, h⟩ := h
        refine va_iast hx hb hK hP hD hS 20 0 rfl rfl hi20 d_Model_numberAll_56 (fun H locs hP hD hS => ?_)
        obtain ⟨μ21, eμ21⟩ : ∃ z, z = s2 μ 24 (Int32.toNatClampNeg x1) ((μ 24 (Int32.toNatClampNeg x1)) + 1) := ⟨_, rfl⟩
        replace hP : va_P D CL (wModel k g μ21) H := by rw [eμ21]; exact hP
        replace hD : va_D A (wModel k g μ21) := by rw [eμ21]; exact hD
        replace h := h μ21 eμ21
        refine lv_aload_n hx hb d_Model_numberAll_57 rfl (lv_at hl 0 rfl) ?_
        refine va_get (D := D) (ci := 8) (v := .ref (g 24)) (C := R_Model) (T := F_Model) (N := 40) hx hb hts in_Model hown hK hP 0 rfl rfl 28 (by decide) (hts _ kw_890) (fun _ h9 => h9) rfl d_Model_numberAll_58 ?_
        refine lv_iload_n hx hb d_Model_numberAll_61 rfl (lv_at hl 1 rfl) ?_
        refine lv_aload_n hx hb d_Model_numberAll_62 rfl (lv_at hl 0 rfl) ?_
        refine va_get (D := D) (ci := 8) (v := .ref (g 19)) (C := R_Model) (T := F_Model) (N := 40) hx hb hts in_Model hown hK hP 0 rfl rfl 21 (by decide) (hts _ kw_883) (fun _ h9 => h9) rfl d_Model_numberAll_63 ?_
        refine lv_iload_n hx hb d_Model_numberAll_66 rfl (lv_at hl 2 rfl) ?_
        obtain ⟨hi22, h⟩ := h
        refine va_iald hx hb hK hP 19 0 rfl rfl hi22 d_Model_numberAll_67 ?_
        obtain ⟨hi23, h⟩ := h
        refine va_iast hx hb hK hP hD hS 24 0 rfl rfl hi23 d_Model_numberAll_68 (fun H locs hP hD hS => ?_)
        obtain ⟨μ24, eμ24⟩ : ∃ z, z = s2 μ21 28 (Int32.toNatClampNeg x1) (μ21 21 (Int32.toNatClampNeg x2)) := ⟨_, rfl⟩
        replace hP : va_P D CL (wModel k g μ24) H := by rw [eμ24]; exact hP
        replace hD : va_D A (wModel k g μ24) := by rw [eμ24]; exact hD
        replace h := h μ24 eμ24
        exact t_Model_numberAll_69 C N post (wp_Model_numberAll_29 N post K_7 n) ih x1 x2 μ24 _ _ _ hP hD hS (lv_sub hl [0, 1, 2] rfl) h
set_option maxHeartbeats 4000000 in
set_option maxRecDepth 100000 in
theorem t_Model_numberAll_7 {p : Program} {l : Launch} {e : Env} {s : State} {m : MethodId} {args : Array Value} {below : List Frame} {meth : Method} {c : Code} {A : Nat → Prop} {D : va_G} {k : Nat → ClassId} {g : Nat → Nat} (C : Cx p s m args meth c D k "PromotionTillModel" b_Model_numberAll 3 none A) (N : Nat) (post : ((St)) → Prop) :
    ∀ (n : Nat) (x1 : Int32) (μ : (St)) (H : Heap) (locs : List Loc) (ls : Array Slot), va_P D CL (wModel k g μ) H → va_D A (wModel k g μ) → va_S A s.heap H locs → lv_has ls 3 [(0, .ref (g 0)), (1, .int x1)] → wp_Model_numberAll_7 N post n x1 μ → W p l e rm_Model_numberAll s m args below meth c H locs 0 0 (MQ below (va_Qv post (fun (u : (St)) t => va_P D CL (wModel k g u) t.heap ∧ va_D A (wModel k g u)) A) args s rm_Model_numberAll.cells rm_Model_numberAll.slots A) (F0 m 7 ls []) := by
  obtain ⟨hx, hb, hr, hlk, hml, hown, hts, hK, hA⟩ := id C
  intro n
  induction n with
  | zero =>
    intro x1 μ H locs ls hP hD hS hl h
    exact absurd h (by simp [wp_Model_numberAll_7])
  | succ n ih =>
    intro x1 μ H locs ls hP hD hS hl h
    rw [wp_Model_numberAll_7] at h
    refine lv_iload_n hx hb d_Model_numberAll_7 rfl (lv_at hl 1 rfl) ?_
    refine lv_bipush (v := 12) hx hb d_Model_numberAll_8 (by decide) ?_
    refine lv_icmp_ge (tgt := 125) hx hb d_Model_numberAll_10 (by decide) (fun c2 => ?_) (fun c2 => ?_)
    · replace h := h.1 c2
      refine lv_iconst (v := 0) hx hb d_Model_numberAll_125 (by decide) ?_
      refine lv_istore_n (lv' := [(1, .int 0), (0, .ref (g 0))]) hx hb d_Model_numberAll_126 rfl hl (by decide) rfl (fun ls hl => ?_)
      exact t_Model_numberAll_127 C N post   N 0 μ _ _ _ hP hD hS (lv_sub hl [1, 0] rfl) h
    · replace h := h.2 c2
      refine lv_aload_n hx hb d_Model_numberAll_13 rfl (lv_at hl 0 rfl) ?_
      refine va_get (D := D) (ci := 8) (v := .ref (g 20)) (C := R_Model) (T := F_Model) (N := 40) hx hb hts in_Model hown hK hP 0 rfl rfl 24 (by decide) (hts _ kw_886) (fun _ h9 => h9) rfl d_Model_numberAll_14 ?_
      refine lv_iload_n hx hb d_Model_numberAll_17 rfl (lv_at hl 1 rfl) ?_
      refine lv_iconst (v := 0) hx hb d_Model_numberAll_18 (by decide) ?_
      obtain ⟨hi3, h⟩ := h
      refine va_iast hx hb hK hP hD hS 20 0 rfl rfl hi3 d_Model_numberAll_19 (fun H locs hP hD hS => ?_)
      obtain ⟨μ4, eμ4⟩ : ∃ z, z = s2 μ 24 (Int32.toNatClampNeg x1) 0 := ⟨_, rfl⟩
      replace hP : va_P D CL (wModel k g μ4) H := by rw [eμ4]; exact hP
      replace hD : va_D A (wModel k g μ4) := by rw [eμ4]; exact hD
      replace h := h μ4 eμ4
      refine lv_aload_n hx hb d_Model_numberAll_20 rfl (lv_at hl 0 rfl) ?_
      refine va_get (D := D) (ci := 8) (v := .ref (g 22)) (C := R_Model) (T := F_Model) (N := 40) hx hb hts in_Model hown hK hP 0 rfl rfl 26 (by decide) (hts _ kw_888) (fun _ h9 => h9) rfl d_Model_numberAll_21 ?_
      refine lv_iload_n hx hb d_Model_numberAll_24 rfl (lv_at hl 1 rfl) ?_
      refine lv_iconst (v := 0) hx hb d_Model_numberAll_25 (by decide) ?_
      obtain ⟨hi5, h⟩ := h
      refine va_iast hx hb hK hP hD hS 22 0 rfl rfl hi5 d_Model_numberAll_26 (fun H locs hP hD hS => ?_)
      obtain ⟨μ6, eμ6⟩ : ∃ z, z = s2 μ4 26 (Int32.toNatClampNeg x1) 0 := ⟨_, rfl⟩
      replace hP : va_P D CL (wModel k g μ6) H := by rw [eμ6]; exact hP
      replace hD : va_D A (wModel k g μ6) := by rw [eμ6]; exact hD
      replace h := h μ6 eμ6
      refine lv_iconst (v := 0) hx hb d_Model_numberAll_27 (by decide) ?_
      refine lv_istore_n (lv' := [(2, .int 0), (0, .ref (g 0)), (1, .int x1)]) hx hb d_Model_numberAll_28 rfl hl (by decide) rfl (fun ls hl => ?_)
      exact t_Model_numberAll_29 C N post (wp_Model_numberAll_7 N post n) ih N x1 0 μ6 _ _ _ hP hD hS (lv_sub hl [1, 2, 0] rfl) h
set_option maxHeartbeats 4000000 in
set_option maxRecDepth 100000 in
theorem m_Model_numberAll {l : Launch} {D : va_G} {k : Nat → ClassId} (N : Nat) (g : Nat → Nat) (μ : St) (post : ((St)) → Prop) (h : wp_Model_numberAll N  μ  post) : Cv l D k y_Model_numberAll b_Model_numberAll 3 rm_Model_numberAll [.ref (g 0)] (wModel k g μ) (fun u : (St) => wModel k g u) post := by
  refine Cv.of (by decide) (Nat.le_of_ble_eq_true rfl) ?_
  intro p e s m below meth c A H locs ls C hP hD hS hl
  obtain ⟨hx, hb, hr, hlk, hml, hown, hts, hK, hA⟩ := id C
  replace hl : lv_has ls 3 [(0, .ref (g 0))] := hl
  unfold wp_Model_numberAll at h
  refine lv_aload_n hx hb d_Model_numberAll_0 rfl (lv_at hl 0 rfl) ?_
  refine lv_iconst (v := 1) hx hb d_Model_numberAll_1 (by decide) ?_
  refine va_put (D := D) (ci := 8) (v := .int 1) (ty := .int) (C := R_Model) (T := F_Model) (N := 40) hx hb hts in_Model t_Model tt_Model n_Model hown hK hP hD hS 0 rfl rfl 29 (by decide) (hts _ kw_891) (fun _ h9 => h9) rfl (by decide +kernel) rfl rfl (Nat.le_of_ble_eq_true rfl) d_Model_numberAll_2 (fun H locs hP hD hS => ?_)
  obtain ⟨μ1, eμ1⟩ : ∃ z, z = s2 μ 29 0 1 := ⟨_, rfl⟩
  replace hP : va_P D CL (wModel k g μ1) H := by rw [eμ1]; exact hP
  replace hD : va_D A (wModel k g μ1) := by rw [eμ1]; exact hD
  replace h := h μ1 eμ1
  refine lv_iconst (v := 0) hx hb d_Model_numberAll_5 (by decide) ?_
  refine lv_istore_n (lv' := [(1, .int 0), (0, .ref (g 0))]) hx hb d_Model_numberAll_6 rfl hl (by decide) rfl (fun ls hl => ?_)
  exact t_Model_numberAll_7 C N post   N 0 μ1 _ _ _ hP hD hS (lv_sub hl [1, 0] rfl) h
set_option maxHeartbeats 4000000 in
set_option maxRecDepth 100000 in
theorem t_Model_unfold_156 {p : Program} {l : Launch} {e : Env} {s : State} {m : MethodId} {args : Array Value} {below : List Frame} {meth : Method} {c : Code} {A : Nat → Prop} {D : va_G} {k : Nat → ClassId} {g : Nat → Nat} (C : Cx p s m args meth c D k "PromotionTillModel" b_Model_unfold 6 none A) (N : Nat) (post : ((St)) → Prop) (K_91 : Int32 → Int32 → (St) → Prop) (hK_91 : ∀ (x2 : Int32) (x3 : Int32) (μ : (St)) (H : Heap) (locs : List Loc) (ls : Array Slot), va_P D CL (wModel k g μ) H → va_D A (wModel k g μ) → va_S A s.heap H locs → lv_has ls 6 [(0, .ref (g 0)), (2, .int x2), (3, .int x3)] → K_91 x2 x3 μ → W p l e rm_Model_unfold s m args below meth c H locs 0 0 (MQ below (va_Qv post (fun (u : (St)) t => va_P D CL (wModel k g u) t.heap ∧ va_D A (wModel k g u)) A) args s rm_Model_unfold.cells rm_Model_unfold.slots A) (F0 m 91 ls [])) :
    ∀ (x2 : Int32) (x3 : Int32) (μ : (St)) (H : Heap) (locs : List Loc) (ls : Array Slot), va_P D CL (wModel k g μ) H → va_D A (wModel k g μ) → va_S A s.heap H locs → lv_has ls 6 [(0, .ref (g 0)), (2, .int x2), (3, .int x3)] → wp_Model_unfold_156 N post K_91 x2 x3 μ → W p l e rm_Model_unfold s m args below meth c H locs 0 0 (MQ below (va_Qv post (fun (u : (St)) t => va_P D CL (wModel k g u) t.heap ∧ va_D A (wModel k g u)) A) args s rm_Model_unfold.cells rm_Model_unfold.slots A) (F0 m 156 ls []) := by
  obtain ⟨hx, hb, hr, hlk, hml, hown, hts, hK, hA⟩ := id C
  intro x2 x3 μ H locs ls hP hD hS hl h
  unfold wp_Model_unfold_156 at h
  refine lv_iinc (v := x3 + 1) (lv' := [(3, .int (x3 + 1)), (0, .ref (g 0)), (2, .int x2)]) hx hb d_Model_unfold_156 hl (k := 2) rfl rfl (by decide) rfl (fun ls hl => ?_)
  refine lv_goto (tgt := 91) hx hb d_Model_unfold_159 (by decide) ?_
  exact hK_91 x2 (x3 + 1) μ _ _ _ hP hD hS (lv_sub hl [1, 2, 0] rfl) h
set_option maxHeartbeats 4000000 in
set_option maxRecDepth 100000 in
theorem t_Model_unfold_48 {p : Program} {l : Launch} {e : Env} {s : State} {m : MethodId} {args : Array Value} {below : List Frame} {meth : Method} {c : Code} {A : Nat → Prop} {D : va_G} {k : Nat → ClassId} {g : Nat → Nat} (C : Cx p s m args meth c D k "PromotionTillModel" b_Model_unfold 6 none A) (N : Nat) (post : ((St)) → Prop) (K_25 : Int32 → Int32 → Int32 → Int32 → (St) → Prop) (hK_25 : ∀ (x2 : Int32) (x3 : Int32) (x4 : Int32) (x5 : Int32) (μ : (St)) (H : Heap) (locs : List Loc) (ls : Array Slot), va_P D CL (wModel k g μ) H → va_D A (wModel k g μ) → va_S A s.heap H locs → lv_has ls 6 [(0, .ref (g 0)), (2, .int x2), (3, .int x3), (4, .int x4), (5, .int x5)] → K_25 x2 x3 x4 x5 μ → W p l e rm_Model_unfold s m args below meth c H locs 0 0 (MQ below (va_Qv post (fun (u : (St)) t => va_P D CL (wModel k g u) t.heap ∧ va_D A (wModel k g u)) A) args s rm_Model_unfold.cells rm_Model_unfold.slots A) (F0 m 25 ls [])) :
    ∀ (x2 : Int32) (x3 : Int32) (x4 : Int32) (x5 : Int32) (μ : (St)) (H : Heap) (locs : List Loc) (ls : Array Slot), va_P D CL (wModel k g μ) H → va_D A (wModel k g μ) → va_S A s.heap H locs → lv_has ls 6 [(0, .ref (g 0)), (2, .int x2), (3, .int x3), (4, .int x4), (5, .int x5)] → wp_Model_unfold_48 N post K_25 x2 x3 x4 x5 μ → W p l e rm_Model_unfold s m args below meth c H locs 0 0 (MQ below (va_Qv post (fun (u : (St)) t => va_P D CL (wModel k g u) t.heap ∧ va_D A (wModel k g u)) A) args s rm_Model_unfold.cells rm_Model_unfold.slots A) (F0 m 48 ls []) := by
  obtain ⟨hx, hb, hr, hlk, hml, hown, hts, hK, hA⟩ := id C
  intro x2 x3 x4 x5 μ H locs ls hP hD hS hl h
  unfold wp_Model_unfold_48 at h
  refine lv_iinc (v := x5 + 1) (lv' := [(5, .int (x5 + 1)), (0, .ref (g 0)), (2, .int x2), (3, .int x3), (4, .int x4)]) hx hb d_Model_unfold_48 hl (k := 4) rfl rfl (by decide) rfl (fun ls hl => ?_)
  refine lv_goto (tgt := 25) hx hb d_Model_unfold_51 (by decide) ?_
  exact hK_25 x2 x3 x4 (x5 + 1) μ _ _ _ hP hD hS (lv_sub hl [1, 2, 3, 4, 0] rfl) h
set_option maxHeartbeats 4000000 in
set_option maxRecDepth 100000 in
theorem t_Model_unfold_91 {p : Program} {l : Launch} {e : Env} {s : State} {m : MethodId} {args : Array Value} {below : List Frame} {meth : Method} {c : Code} {A : Nat → Prop} {D : va_G} {k : Nat → ClassId} {g : Nat → Nat} (C : Cx p s m args meth c D k "PromotionTillModel" b_Model_unfold 6 none A) (N : Nat) (post : ((St)) → Prop) :
    ∀ (n : Nat) (x2 : Int32) (x3 : Int32) (μ : (St)) (H : Heap) (locs : List Loc) (ls : Array Slot), va_P D CL (wModel k g μ) H → va_D A (wModel k g μ) → va_S A s.heap H locs → lv_has ls 6 [(0, .ref (g 0)), (2, .int x2), (3, .int x3)] → wp_Model_unfold_91 N post n x2 x3 μ → W p l e rm_Model_unfold s m args below meth c H locs 0 0 (MQ below (va_Qv post (fun (u : (St)) t => va_P D CL (wModel k g u) t.heap ∧ va_D A (wModel k g u)) A) args s rm_Model_unfold.cells rm_Model_unfold.slots A) (F0 m 91 ls []) := by
  obtain ⟨hx, hb, hr, hlk, hml, hown, hts, hK, hA⟩ := id C
  intro n
  induction n with
  | zero =>
    intro x2 x3 μ H locs ls hP hD hS hl h
    exact absurd h (by simp [wp_Model_unfold_91])
  | succ n ih =>
    intro x2 x3 μ H locs ls hP hD hS hl h
    rw [wp_Model_unfold_91] at h
    refine lv_iload_n hx hb d_Model_unfold_91 rfl (lv_at hl 2 rfl) ?_
    refine lv_bipush (v := 6) hx hb d_Model_unfold_92 (by decide) ?_
    refine lv_icmp_ge (tgt := 162) hx hb d_Model_unfold_94 (by decide) (fun c13 => ?_) (fun c13 => ?_)
    · replace h := h.1 c13
      exact ret_v (u := μ) (wf := (fun u : (St) => wModel k g u)) C hP hD hS (Nat.zero_le _) (Nat.zero_le _) h d_Model_unfold_162
    · replace h := h.2 c13
      refine lv_aload_n hx hb d_Model_unfold_97 rfl (lv_at hl 0 rfl) ?_
      refine va_get (D := D) (ci := 8) (v := .ref (g 21)) (C := R_Model) (T := F_Model) (N := 40) hx hb hts in_Model hown hK hP 0 rfl rfl 25 (by decide) (hts _ kw_887) (fun _ h9 => h9) rfl d_Model_unfold_98 ?_
      refine lv_iload_n hx hb d_Model_unfold_101 rfl (lv_at hl 2 rfl) ?_
      refine lv_iconst (v := 0) hx hb d_Model_unfold_102 (by decide) ?_
      obtain ⟨hi14, h⟩ := h
      refine va_iast hx hb hK hP hD hS 21 0 rfl rfl hi14 d_Model_unfold_103 (fun H locs hP hD hS => ?_)
      obtain ⟨μ15, eμ15⟩ : ∃ z, z = s2 μ 25 (Int32.toNatClampNeg x3) 0 := ⟨_, rfl⟩
      replace hP : va_P D CL (wModel k g μ15) H := by rw [eμ15]; exact hP
      replace hD : va_D A (wModel k g μ15) := by rw [eμ15]; exact hD
      replace h := h μ15 eμ15
      refine lv_aload_n hx hb d_Model_unfold_104 rfl (lv_at hl 0 rfl) ?_
      refine va_get (D := D) (ci := 8) (v := .ref (g 23)) (C := R_Model) (T := F_Model) (N := 40) hx hb hts in_Model hown hK hP 0 rfl rfl 27 (by decide) (hts _ kw_889) (fun _ h9 => h9) rfl d_Model_unfold_105 ?_
      refine lv_iload_n hx hb d_Model_unfold_108 rfl (lv_at hl 2 rfl) ?_
      obtain ⟨hi16, h⟩ := h
      refine va_iald hx hb hK hP 23 0 rfl rfl hi16 d_Model_unfold_109 ?_
      refine lv_if_le (tgt := 156) hx hb d_Model_unfold_110 (by decide) (fun c17 => ?_) (fun c17 => ?_)
      · replace h := h.1 c17
        exact t_Model_unfold_156 C N post (wp_Model_unfold_91 N post n) ih x2 x3 μ15 _ _ _ hP hD hS (lv_sub hl [0, 1, 2] rfl) h
      · replace h := h.2 c17
        refine lv_aload_n hx hb d_Model_unfold_113 rfl (lv_at hl 0 rfl) ?_
        refine va_get (D := D) (ci := 8) (v := .ref (g 21)) (C := R_Model) (T := F_Model) (N := 40) hx hb hts in_Model hown hK hP 0 rfl rfl 25 (by decide) (hts _ kw_887) (fun _ h9 => h9) rfl d_Model_unfold_114 ?_
        refine lv_iload_n hx hb d_Model_unfold_117 rfl (lv_at hl 2 rfl) ?_
        refine lv_iload_n hx hb d_Model_unfold_118 rfl (lv_at hl 1 rfl) ?_
        refine lv_aload_n hx hb d_Model_unfold_119 rfl (lv_at hl 0 rfl) ?_
        refine va_get (D := D) (ci := 8) (v := .ref (g 6)) (C := R_Model) (T := F_Model) (N := 40) hx hb hts in_Model hown hK hP 0 rfl rfl 5 (by decide) (hts _ kw_867) (fun _ h9 => h9) rfl d_Model_unfold_120 ?_
        refine lv_bipush (v := 6) hx hb d_Model_unfold_123 (by decide) ?_
        refine lv_aload_n hx hb d_Model_unfold_125 rfl (lv_at hl 0 rfl) ?_
        refine va_get (D := D) (ci := 8) (v := .int (μ15 23 0)) (C := R_Model) (T := F_Model) (N := 40) hx hb hts in_Model hown hK hP 0 rfl rfl 23 (by decide) (hts _ kw_885) (fun _ h9 => h9) rfl d_Model_unfold_126 ?_
        refine lv_imul hx hb d_Model_unfold_129 ?_
        refine lv_iload_n hx hb d_Model_unfold_130 rfl (lv_at hl 2 rfl) ?_
        refine lv_iadd hx hb d_Model_unfold_131 ?_
        obtain ⟨hi18, h⟩ := h
        refine va_iald hx hb hK hP 6 0 rfl rfl hi18 d_Model_unfold_132 ?_
        refine lv_iconst (v := 1) hx hb d_Model_unfold_133 (by decide) ?_
        refine lv_iadd hx hb d_Model_unfold_134 ?_
        obtain ⟨hz19, h⟩ := h
        refine lv_irem hx hb d_Model_unfold_135 hz19 ?_
        obtain ⟨hi20, h⟩ := h
        refine va_iast hx hb hK hP hD hS 21 0 rfl rfl hi20 d_Model_unfold_136 (fun H locs hP hD hS => ?_)
        obtain ⟨μ21, eμ21⟩ : ∃ z, z = s2 μ15 25 (Int32.toNatClampNeg x3) (x2 - x2 / ((μ15 5 (Int32.toNatClampNeg ((6 * (μ15 23 0)) + x3))) + 1) * ((μ15 5 (Int32.toNatClampNeg ((6 * (μ15 23 0)) + x3))) + 1)) := ⟨_, rfl⟩
        replace hP : va_P D CL (wModel k g μ21) H := by rw [eμ21]; exact hP
        replace hD : va_D A (wModel k g μ21) := by rw [eμ21]; exact hD
        replace h := h μ21 eμ21
        refine lv_iload_n hx hb d_Model_unfold_137 rfl (lv_at hl 1 rfl) ?_
        refine lv_aload_n hx hb d_Model_unfold_138 rfl (lv_at hl 0 rfl) ?_
        refine va_get (D := D) (ci := 8) (v := .ref (g 6)) (C := R_Model) (T := F_Model) (N := 40) hx hb hts in_Model hown hK hP 0 rfl rfl 5 (by decide) (hts _ kw_867) (fun _ h9 => h9) rfl d_Model_unfold_139 ?_
        refine lv_bipush (v := 6) hx hb d_Model_unfold_142 (by decide) ?_
        refine lv_aload_n hx hb d_Model_unfold_144 rfl (lv_at hl 0 rfl) ?_
        refine va_get (D := D) (ci := 8) (v := .int (μ21 23 0)) (C := R_Model) (T := F_Model) (N := 40) hx hb hts in_Model hown hK hP 0 rfl rfl 23 (by decide) (hts _ kw_885) (fun _ h9 => h9) rfl d_Model_unfold_145 ?_
        refine lv_imul hx hb d_Model_unfold_148 ?_
        refine lv_iload_n hx hb d_Model_unfold_149 rfl (lv_at hl 2 rfl) ?_
        refine lv_iadd hx hb d_Model_unfold_150 ?_
        obtain ⟨hi22, h⟩ := h
        refine va_iald hx hb hK hP 6 0 rfl rfl hi22 d_Model_unfold_151 ?_
        refine lv_iconst (v := 1) hx hb d_Model_unfold_152 (by decide) ?_
        refine lv_iadd hx hb d_Model_unfold_153 ?_
        obtain ⟨hz23, h⟩ := h
        refine lv_idiv hx hb d_Model_unfold_154 hz23 ?_
        refine lv_istore_n (lv' := [(2, .int (x2 / ((μ21 5 (Int32.toNatClampNeg ((6 * (μ21 23 0)) + x3))) + 1))), (0, .ref (g 0)), (3, .int x3)]) hx hb d_Model_unfold_155 rfl hl (by decide) rfl (fun ls hl => ?_)
        exact t_Model_unfold_156 C N post (wp_Model_unfold_91 N post n) ih (x2 / ((μ21 5 (Int32.toNatClampNeg ((6 * (μ21 23 0)) + x3))) + 1)) x3 μ21 _ _ _ hP hD hS (lv_sub hl [1, 0, 2] rfl) h
set_option maxHeartbeats 4000000 in
set_option maxRecDepth 100000 in
theorem t_Model_unfold_83 {p : Program} {l : Launch} {e : Env} {s : State} {m : MethodId} {args : Array Value} {below : List Frame} {meth : Method} {c : Code} {A : Nat → Prop} {D : va_G} {k : Nat → ClassId} {g : Nat → Nat} (C : Cx p s m args meth c D k "PromotionTillModel" b_Model_unfold 6 none A) (N : Nat) (post : ((St)) → Prop) (K_4 : Int32 → Int32 → (St) → Prop) (hK_4 : ∀ (x2 : Int32) (x3 : Int32) (μ : (St)) (H : Heap) (locs : List Loc) (ls : Array Slot), va_P D CL (wModel k g μ) H → va_D A (wModel k g μ) → va_S A s.heap H locs → lv_has ls 6 [(0, .ref (g 0)), (2, .int x2), (3, .int x3)] → K_4 x2 x3 μ → W p l e rm_Model_unfold s m args below meth c H locs 0 0 (MQ below (va_Qv post (fun (u : (St)) t => va_P D CL (wModel k g u) t.heap ∧ va_D A (wModel k g u)) A) args s rm_Model_unfold.cells rm_Model_unfold.slots A) (F0 m 4 ls [])) :
    ∀ (x2 : Int32) (x3 : Int32) (μ : (St)) (H : Heap) (locs : List Loc) (ls : Array Slot), va_P D CL (wModel k g μ) H → va_D A (wModel k g μ) → va_S A s.heap H locs → lv_has ls 6 [(0, .ref (g 0)), (2, .int x2), (3, .int x3)] → wp_Model_unfold_83 N post K_4 x2 x3 μ → W p l e rm_Model_unfold s m args below meth c H locs 0 0 (MQ below (va_Qv post (fun (u : (St)) t => va_P D CL (wModel k g u) t.heap ∧ va_D A (wModel k g u)) A) args s rm_Model_unfold.cells rm_Model_unfold.slots A) (F0 m 83 ls []) := by
  obtain ⟨hx, hb, hr, hlk, hml, hown, hts, hK, hA⟩ := id C
  intro x2 x3 μ H locs ls hP hD hS hl h
  unfold wp_Model_unfold_83 at h
  refine lv_iinc (v := x3 + 1) (lv' := [(3, .int (x3 + 1)), (0, .ref (g 0)), (2, .int x2)]) hx hb d_Model_unfold_83 hl (k := 2) rfl rfl (by decide) rfl (fun ls hl => ?_)
  refine lv_goto (tgt := 4) hx hb d_Model_unfold_86 (by decide) ?_
  exact hK_4 x2 (x3 + 1) μ _ _ _ hP hD hS (lv_sub hl [1, 2, 0] rfl) h
set_option maxHeartbeats 4000000 in
set_option maxRecDepth 100000 in
theorem t_Model_unfold_25 {p : Program} {l : Launch} {e : Env} {s : State} {m : MethodId} {args : Array Value} {below : List Frame} {meth : Method} {c : Code} {A : Nat → Prop} {D : va_G} {k : Nat → ClassId} {g : Nat → Nat} (C : Cx p s m args meth c D k "PromotionTillModel" b_Model_unfold 6 none A) (N : Nat) (post : ((St)) → Prop) (K_83 : Int32 → Int32 → (St) → Prop) (hK_83 : ∀ (x2 : Int32) (x3 : Int32) (μ : (St)) (H : Heap) (locs : List Loc) (ls : Array Slot), va_P D CL (wModel k g μ) H → va_D A (wModel k g μ) → va_S A s.heap H locs → lv_has ls 6 [(0, .ref (g 0)), (2, .int x2), (3, .int x3)] → K_83 x2 x3 μ → W p l e rm_Model_unfold s m args below meth c H locs 0 0 (MQ below (va_Qv post (fun (u : (St)) t => va_P D CL (wModel k g u) t.heap ∧ va_D A (wModel k g u)) A) args s rm_Model_unfold.cells rm_Model_unfold.slots A) (F0 m 83 ls [])) :
    ∀ (n : Nat) (x2 : Int32) (x3 : Int32) (x4 : Int32) (x5 : Int32) (μ : (St)) (H : Heap) (locs : List Loc) (ls : Array Slot), va_P D CL (wModel k g μ) H → va_D A (wModel k g μ) → va_S A s.heap H locs → lv_has ls 6 [(0, .ref (g 0)), (2, .int x2), (3, .int x3), (4, .int x4), (5, .int x5)] → wp_Model_unfold_25 N post K_83 n x2 x3 x4 x5 μ → W p l e rm_Model_unfold s m args below meth c H locs 0 0 (MQ below (va_Qv post (fun (u : (St)) t => va_P D CL (wModel k g u) t.heap ∧ va_D A (wModel k g u)) A) args s rm_Model_unfold.cells rm_Model_unfold.slots A) (F0 m 25 ls []) := by
  obtain ⟨hx, hb, hr, hlk, hml, hown, hts, hK, hA⟩ := id C
  intro n
  induction n with
  | zero =>
    intro x2 x3 x4 x5 μ H locs ls hP hD hS hl h
    exact absurd h (by simp [wp_Model_unfold_25])
  | succ n ih =>
    intro x2 x3 x4 x5 μ H locs ls hP hD hS hl h
    rw [wp_Model_unfold_25] at h
    refine lv_iload hx hb d_Model_unfold_25 (lv_at hl 4 rfl) ?_
    refine lv_aload_n hx hb d_Model_unfold_27 rfl (lv_at hl 0 rfl) ?_
    refine va_get (D := D) (ci := 8) (v := .int (μ 22 0)) (C := R_Model) (T := F_Model) (N := 40) hx hb hts in_Model hown hK hP 0 rfl rfl 22 (by decide) (hts _ kw_884) (fun _ h9 => h9) rfl d_Model_unfold_28 ?_
    refine lv_icmp_ge (tgt := 54) hx hb d_Model_unfold_31 (by decide) (fun c6 => ?_) (fun c6 => ?_)
    · replace h := h.1 c6
      refine lv_aload_n hx hb d_Model_unfold_54 rfl (lv_at hl 0 rfl) ?_
      refine va_get (D := D) (ci := 8) (v := .ref (g 20)) (C := R_Model) (T := F_Model) (N := 40) hx hb hts in_Model hown hK hP 0 rfl rfl 24 (by decide) (hts _ kw_886) (fun _ h9 => h9) rfl d_Model_unfold_55 ?_
      refine lv_iload_n hx hb d_Model_unfold_58 rfl (lv_at hl 2 rfl) ?_
      refine lv_iload_n hx hb d_Model_unfold_59 rfl (lv_at hl 1 rfl) ?_
      refine lv_iload hx hb d_Model_unfold_60 (lv_at hl 3 rfl) ?_
      refine lv_iconst (v := 1) hx hb d_Model_unfold_62 (by decide) ?_
      refine lv_iadd hx hb d_Model_unfold_63 ?_
      obtain ⟨hz7, h⟩ := h
      refine lv_irem hx hb d_Model_unfold_64 hz7 ?_
      obtain ⟨hi8, h⟩ := h
      refine va_iast hx hb hK hP hD hS 20 0 rfl rfl hi8 d_Model_unfold_65 (fun H locs hP hD hS => ?_)
      obtain ⟨μ9, eμ9⟩ : ∃ z, z = s2 μ 24 (Int32.toNatClampNeg x3) (x2 - x2 / (x4 + 1) * (x4 + 1)) := ⟨_, rfl⟩
      replace hP : va_P D CL (wModel k g μ9) H := by rw [eμ9]; exact hP
      replace hD : va_D A (wModel k g μ9) := by rw [eμ9]; exact hD
      replace h := h μ9 eμ9
      refine lv_iload_n hx hb d_Model_unfold_66 rfl (lv_at hl 1 rfl) ?_
      refine lv_iload hx hb d_Model_unfold_67 (lv_at hl 3 rfl) ?_
      refine lv_iconst (v := 1) hx hb d_Model_unfold_69 (by decide) ?_
      refine lv_iadd hx hb d_Model_unfold_70 ?_
      obtain ⟨hz10, h⟩ := h
      refine lv_idiv hx hb d_Model_unfold_71 hz10 ?_
      refine lv_istore_n (lv' := [(2, .int (x2 / (x4 + 1))), (0, .ref (g 0)), (3, .int x3), (4, .int x4), (5, .int x5)]) hx hb d_Model_unfold_72 rfl hl (by decide) rfl (fun ls hl => ?_)
      refine lv_goto (tgt := 83) hx hb d_Model_unfold_73 (by decide) ?_
      exact hK_83 (x2 / (x4 + 1)) x3 μ9 _ _ _ hP hD hS (lv_sub hl [1, 0, 2] rfl) h
    · replace h := h.2 c6
      refine lv_aload_n hx hb d_Model_unfold_34 rfl (lv_at hl 0 rfl) ?_
      refine va_get (D := D) (ci := 8) (v := .ref (g 18)) (C := R_Model) (T := F_Model) (N := 40) hx hb hts in_Model hown hK hP 0 rfl rfl 20 (by decide) (hts _ kw_882) (fun _ h9 => h9) rfl d_Model_unfold_35 ?_
      refine lv_iload hx hb d_Model_unfold_38 (lv_at hl 4 rfl) ?_
      obtain ⟨hi11, h⟩ := h
      refine va_iald hx hb hK hP 18 0 rfl rfl hi11 d_Model_unfold_40 ?_
      refine lv_iload_n hx hb d_Model_unfold_41 rfl (lv_at hl 2 rfl) ?_
      refine lv_icmp_ne (tgt := 48) hx hb d_Model_unfold_42 (by decide) (fun c12 => ?_) (fun c12 => ?_)
      · replace h := h.1 c12
        exact t_Model_unfold_48 C N post (wp_Model_unfold_25 N post K_83 n) ih x2 x3 x4 x5 μ _ _ _ hP hD hS (lv_sub hl [0, 1, 2, 3, 4] rfl) h
      · replace h := h.2 c12
        refine lv_iinc (v := x4 + 1) (lv' := [(4, .int (x4 + 1)), (0, .ref (g 0)), (2, .int x2), (3, .int x3), (5, .int x5)]) hx hb d_Model_unfold_45 hl (k := 3) rfl rfl (by decide) rfl (fun ls hl => ?_)
        exact t_Model_unfold_48 C N post (wp_Model_unfold_25 N post K_83 n) ih x2 x3 (x4 + 1) x5 μ _ _ _ hP hD hS (lv_sub hl [1, 2, 3, 0, 4] rfl) h
set_option maxHeartbeats 4000000 in
set_option maxRecDepth 100000 in
theorem t_Model_unfold_4 {p : Program} {l : Launch} {e : Env} {s : State} {m : MethodId} {args : Array Value} {below : List Frame} {meth : Method} {c : Code} {A : Nat → Prop} {D : va_G} {k : Nat → ClassId} {g : Nat → Nat} (C : Cx p s m args meth c D k "PromotionTillModel" b_Model_unfold 6 none A) (N : Nat) (post : ((St)) → Prop) :
    ∀ (n : Nat) (x2 : Int32) (x3 : Int32) (μ : (St)) (H : Heap) (locs : List Loc) (ls : Array Slot), va_P D CL (wModel k g μ) H → va_D A (wModel k g μ) → va_S A s.heap H locs → lv_has ls 6 [(0, .ref (g 0)), (2, .int x2), (3, .int x3)] → wp_Model_unfold_4 N post n x2 x3 μ → W p l e rm_Model_unfold s m args below meth c H locs 0 0 (MQ below (va_Qv post (fun (u : (St)) t => va_P D CL (wModel k g u) t.heap ∧ va_D A (wModel k g u)) A) args s rm_Model_unfold.cells rm_Model_unfold.slots A) (F0 m 4 ls []) := by
  obtain ⟨hx, hb, hr, hlk, hml, hown, hts, hK, hA⟩ := id C
  intro n
  induction n with
  | zero =>
    intro x2 x3 μ H locs ls hP hD hS hl h
    exact absurd h (by simp [wp_Model_unfold_4])
  | succ n ih =>
    intro x2 x3 μ H locs ls hP hD hS hl h
    rw [wp_Model_unfold_4] at h
    refine lv_iload_n hx hb d_Model_unfold_4 rfl (lv_at hl 2 rfl) ?_
    refine lv_bipush (v := 12) hx hb d_Model_unfold_5 (by decide) ?_
    refine lv_icmp_ge (tgt := 89) hx hb d_Model_unfold_7 (by decide) (fun c1 => ?_) (fun c1 => ?_)
    · replace h := h.1 c1
      refine lv_iconst (v := 0) hx hb d_Model_unfold_89 (by decide) ?_
      refine lv_istore_n (lv' := [(3, .int 0), (0, .ref (g 0)), (2, .int x2)]) hx hb d_Model_unfold_90 rfl hl (by decide) rfl (fun ls hl => ?_)
      exact t_Model_unfold_91 C N post   N x2 0 μ _ _ _ hP hD hS (lv_sub hl [1, 2, 0] rfl) h
    · replace h := h.2 c1
      refine lv_aload_n hx hb d_Model_unfold_10 rfl (lv_at hl 0 rfl) ?_
      refine va_get (D := D) (ci := 8) (v := .ref (g 22)) (C := R_Model) (T := F_Model) (N := 40) hx hb hts in_Model hown hK hP 0 rfl rfl 26 (by decide) (hts _ kw_888) (fun _ h9 => h9) rfl d_Model_unfold_11 ?_
      refine lv_iload_n hx hb d_Model_unfold_14 rfl (lv_at hl 2 rfl) ?_
      obtain ⟨hi2, h⟩ := h
      refine va_iald hx hb hK hP 22 0 rfl rfl hi2 d_Model_unfold_15 ?_
      refine lv_if_le (tgt := 76) hx hb d_Model_unfold_16 (by decide) (fun c3 => ?_) (fun c3 => ?_)
      · replace h := h.1 c3
        refine lv_aload_n hx hb d_Model_unfold_76 rfl (lv_at hl 0 rfl) ?_
        refine va_get (D := D) (ci := 8) (v := .ref (g 20)) (C := R_Model) (T := F_Model) (N := 40) hx hb hts in_Model hown hK hP 0 rfl rfl 24 (by decide) (hts _ kw_886) (fun _ h9 => h9) rfl d_Model_unfold_77 ?_
        refine lv_iload_n hx hb d_Model_unfold_80 rfl (lv_at hl 2 rfl) ?_
        refine lv_iconst (v := 0) hx hb d_Model_unfold_81 (by decide) ?_
        obtain ⟨hi4, h⟩ := h
        refine va_iast hx hb hK hP hD hS 20 0 rfl rfl hi4 d_Model_unfold_82 (fun H locs hP hD hS => ?_)
        obtain ⟨μ5, eμ5⟩ : ∃ z, z = s2 μ 24 (Int32.toNatClampNeg x3) 0 := ⟨_, rfl⟩
        replace hP : va_P D CL (wModel k g μ5) H := by rw [eμ5]; exact hP
        replace hD : va_D A (wModel k g μ5) := by rw [eμ5]; exact hD
        replace h := h μ5 eμ5
        exact t_Model_unfold_83 C N post (wp_Model_unfold_4 N post n) ih x2 x3 μ5 _ _ _ hP hD hS (lv_sub hl [0, 1, 2] rfl) h
      · replace h := h.2 c3
        refine lv_iconst (v := 0) hx hb d_Model_unfold_19 (by decide) ?_
        refine lv_istore (lv' := [(4, .int 0), (0, .ref (g 0)), (2, .int x2), (3, .int x3)]) hx hb d_Model_unfold_20 hl (by decide) rfl (fun ls hl => ?_)
        refine lv_iconst (v := 0) hx hb d_Model_unfold_22 (by decide) ?_
        refine lv_istore (lv' := [(5, .int 0), (4, .int 0), (0, .ref (g 0)), (2, .int x2), (3, .int x3)]) hx hb d_Model_unfold_23 hl (by decide) rfl (fun ls hl => ?_)
        exact t_Model_unfold_25 C N post (wp_Model_unfold_83 N post (wp_Model_unfold_4 N post n)) (t_Model_unfold_83 C N post (wp_Model_unfold_4 N post n) ih) N x2 x3 0 0 μ _ _ _ hP hD hS (lv_sub hl [2, 3, 4, 1, 0] rfl) h
set_option maxHeartbeats 4000000 in
set_option maxRecDepth 100000 in
theorem m_Model_unfold {l : Launch} {D : va_G} {k : Nat → ClassId} (N : Nat) (g : Nat → Nat) (μ : St) (x1 : Int32) (post : ((St)) → Prop) (h : wp_Model_unfold N  μ x1 post) : Cv l D k y_Model_unfold b_Model_unfold 6 rm_Model_unfold [.ref (g 0), .int x1] (wModel k g μ) (fun u : (St) => wModel k g u) post := by
  refine Cv.of (by decide) (Nat.le_of_ble_eq_true rfl) ?_
  intro p e s m below meth c A H locs ls C hP hD hS hl
  obtain ⟨hx, hb, hr, hlk, hml, hown, hts, hK, hA⟩ := id C
  replace hl : lv_has ls 6 [(0, .ref (g 0)), (1, .int x1)] := hl
  unfold wp_Model_unfold at h
  refine lv_iload_n hx hb d_Model_unfold_0 rfl (lv_at hl 1 rfl) ?_
  refine lv_istore_n (lv' := [(2, .int x1), (0, .ref (g 0)), (1, .int x1)]) hx hb d_Model_unfold_1 rfl hl (by decide) rfl (fun ls hl => ?_)
  refine lv_iconst (v := 0) hx hb d_Model_unfold_2 (by decide) ?_
  refine lv_istore_n (lv' := [(3, .int 0), (2, .int x1), (0, .ref (g 0)), (1, .int x1)]) hx hb d_Model_unfold_3 rfl hl (by decide) rfl (fun ls hl => ?_)
  exact t_Model_unfold_4 C N post   N x1 0 μ _ _ _ hP hD hS (lv_sub hl [2, 1, 0] rfl) h
set_option maxHeartbeats 4000000 in
set_option maxRecDepth 100000 in
theorem m_Model_alone {l : Launch} {D : va_G} {k : Nat → ClassId} (N : Nat) (g : Nat → Nat) (μ : St) (x1 : Int32) (x2 : Int32) (post : Int32 → (Unit) → Prop) (h : wp_Model_alone N  μ x1 x2 post) : Ci l D k y_Model_alone b_Model_alone 3 .int rm_Model_alone [.ref (g 0), .int x1, .int x2] (wModel k g μ) (fun u : Unit => wModel k g μ) post := by
  refine Ci.of (by decide) (Nat.le_of_ble_eq_true rfl) ?_
  intro p e s m below meth c A H locs ls C hP hD hS hl
  obtain ⟨hx, hb, hr, hlk, hml, hown, hts, hK, hA⟩ := id C
  replace hl : lv_has ls 3 [(0, .ref (g 0)), (1, .int x1), (2, .int x2)] := hl
  unfold wp_Model_alone at h
  refine lv_iload_n hx hb d_Model_alone_0 rfl (lv_at hl 1 rfl) ?_
  refine lv_iload_n hx hb d_Model_alone_1 rfl (lv_at hl 2 rfl) ?_
  refine lv_icmp_ge (tgt := 14) hx hb d_Model_alone_2 (by decide) (fun c1 => ?_) (fun c1 => ?_)
  · replace h := h.1 c1
    refine lv_iconst (v := 0) hx hb d_Model_alone_14 (by decide) ?_
    exact ret_i (u := ()) (wf := (fun u : Unit => wModel k g μ)) C hP hD hS (Nat.zero_le _) (Nat.zero_le _) h d_Model_alone_15
  · replace h := h.2 c1
    refine lv_aload_n hx hb d_Model_alone_5 rfl (lv_at hl 0 rfl) ?_
    refine va_get (D := D) (ci := 8) (v := .ref (g 25)) (C := R_Model) (T := F_Model) (N := 40) hx hb hts in_Model hown hK hP 0 rfl rfl 30 (by decide) (hts _ kw_892) (fun _ h9 => h9) rfl d_Model_alone_6 ?_
    refine lv_iload_n hx hb d_Model_alone_9 rfl (lv_at hl 1 rfl) ?_
    obtain ⟨hi2, h⟩ := h
    refine va_iald hx hb hK hP 25 0 rfl rfl hi2 d_Model_alone_10 ?_
    refine lv_goto (tgt := 15) hx hb d_Model_alone_11 (by decide) ?_
    exact ret_i (u := ()) (wf := (fun u : Unit => wModel k g μ)) C hP hD hS (Nat.zero_le _) (Nat.zero_le _) h d_Model_alone_15
set_option maxHeartbeats 4000000 in
set_option maxRecDepth 100000 in
theorem t_Model_reckonAll_120 {p : Program} {l : Launch} {e : Env} {s : State} {m : MethodId} {args : Array Value} {below : List Frame} {meth : Method} {c : Code} {A : Nat → Prop} {D : va_G} {k : Nat → ClassId} {g : Nat → Nat} (C : Cx p s m args meth c D k "PromotionTillModel" b_Model_reckonAll 6 none A) (N : Nat) (post : ((St)) → Prop) (K_72 : Int32 → Int32 → Int32 → (St) → Prop) (hK_72 : ∀ (x1 : Int32) (x2 : Int32) (x3 : Int32) (μ : (St)) (H : Heap) (locs : List Loc) (ls : Array Slot), va_P D CL (wModel k g μ) H → va_D A (wModel k g μ) → va_S A s.heap H locs → lv_has ls 6 [(0, .ref (g 0)), (1, .int x1), (2, .int x2), (3, .int x3)] → K_72 x1 x2 x3 μ → W p l e rm_Model_reckonAll s m args below meth c H locs 0 0 (MQ below (va_Qv post (fun (u : (St)) t => va_P D CL (wModel k g u) t.heap ∧ va_D A (wModel k g u)) A) args s rm_Model_reckonAll.cells rm_Model_reckonAll.slots A) (F0 m 72 ls [])) :
    ∀ (x1 : Int32) (x2 : Int32) (x3 : Int32) (μ : (St)) (H : Heap) (locs : List Loc) (ls : Array Slot), va_P D CL (wModel k g μ) H → va_D A (wModel k g μ) → va_S A s.heap H locs → lv_has ls 6 [(0, .ref (g 0)), (1, .int x1), (2, .int x2), (3, .int x3)] → wp_Model_reckonAll_120 N post K_72 x1 x2 x3 μ → W p l e rm_Model_reckonAll s m args below meth c H locs 0 0 (MQ below (va_Qv post (fun (u : (St)) t => va_P D CL (wModel k g u) t.heap ∧ va_D A (wModel k g u)) A) args s rm_Model_reckonAll.cells rm_Model_reckonAll.slots A) (F0 m 120 ls []) := by
  obtain ⟨hx, hb, hr, hlk, hml, hown, hts, hK, hA⟩ := id C
  intro x1 x2 x3 μ H locs ls hP hD hS hl h
  unfold wp_Model_reckonAll_120 at h
  refine lv_goto (tgt := 72) hx hb d_Model_reckonAll_120 (by decide) ?_
  exact hK_72 x1 x2 x3 μ _ _ _ hP hD hS (lv_sub hl [0, 1, 2, 3] rfl) h
set_option maxHeartbeats 4000000 in
set_option maxRecDepth 100000 in
theorem t_Model_reckonAll_72 {p : Program} {l : Launch} {e : Env} {s : State} {m : MethodId} {args : Array Value} {below : List Frame} {meth : Method} {c : Code} {A : Nat → Prop} {D : va_G} {k : Nat → ClassId} {g : Nat → Nat} (C : Cx p s m args meth c D k "PromotionTillModel" b_Model_reckonAll 6 none A) (N : Nat) (post : ((St)) → Prop) (K_53 : Int32 → Int32 → Int32 → (St) → Prop) (hK_53 : ∀ (x1 : Int32) (x2 : Int32) (x3 : Int32) (μ : (St)) (H : Heap) (locs : List Loc) (ls : Array Slot), va_P D CL (wModel k g μ) H → va_D A (wModel k g μ) → va_S A s.heap H locs → lv_has ls 6 [(0, .ref (g 0)), (1, .int x1), (2, .int x2), (3, .int x3)] → K_53 x1 x2 x3 μ → W p l e rm_Model_reckonAll s m args below meth c H locs 0 0 (MQ below (va_Qv post (fun (u : (St)) t => va_P D CL (wModel k g u) t.heap ∧ va_D A (wModel k g u)) A) args s rm_Model_reckonAll.cells rm_Model_reckonAll.slots A) (F0 m 53 ls [])) :
    ∀ (n : Nat) (x1 : Int32) (x2 : Int32) (x3 : Int32) (μ : (St)) (H : Heap) (locs : List Loc) (ls : Array Slot), va_P D CL (wModel k g μ) H → va_D A (wModel k g μ) → va_S A s.heap H locs → lv_has ls 6 [(0, .ref (g 0)), (1, .int x1), (2, .int x2), (3, .int x3)] → wp_Model_reckonAll_72 N post K_53 n x1 x2 x3 μ → W p l e rm_Model_reckonAll s m args below meth c H locs 0 0 (MQ below (va_Qv post (fun (u : (St)) t => va_P D CL (wModel k g u) t.heap ∧ va_D A (wModel k g u)) A) args s rm_Model_reckonAll.cells rm_Model_reckonAll.slots A) (F0 m 72 ls []) := by
  obtain ⟨hx, hb, hr, hlk, hml, hown, hts, hK, hA⟩ := id C
  intro n
  induction n with
  | zero =>
    intro x1 x2 x3 μ H locs ls hP hD hS hl h
    exact absurd h (by simp [wp_Model_reckonAll_72])
  | succ n ih =>
    intro x1 x2 x3 μ H locs ls hP hD hS hl h
    rw [wp_Model_reckonAll_72] at h
    refine lv_aload_n hx hb d_Model_reckonAll_72 rfl (lv_at hl 0 rfl) ?_
    refine lv_iload_n hx hb d_Model_reckonAll_73 rfl (lv_at hl 3 rfl) ?_
    refine same_i C hP hD hS (runV (As := [.int x3]) (rest := []) C hP hD (m_Model_nextUse N g μ x3  _ h H.size) kw_1065 kw_1067 kp_36 kw_12 kw_1068 hd_Model_nextUse ⟨Nat.le_of_ble_eq_true rfl, Nat.le_of_ble_eq_true rfl⟩ ⟨Nat.le_of_ble_eq_true rfl, Nat.le_of_ble_eq_true rfl⟩ 0 rfl rfl rfl rfl hl.1 (Nat.le_of_ble_eq_true rfl) d_Model_reckonAll_74) (fun r15 u14 H locs h hP hD hS => ?_)
    replace hP : va_P D CL (wModel k g u14) H := hP
    replace hD : va_D A (wModel k g u14) := hD
    try dsimp only at h
    refine lv_if_eq (tgt := 123) hx hb d_Model_reckonAll_77 (by decide) (fun c16 => ?_) (fun c16 => ?_)
    · replace h := h.1 c16
      refine lv_iinc (v := x3 + 1) (lv' := [(3, .int (x3 + 1)), (0, .ref (g 0)), (1, .int x1), (2, .int x2)]) hx hb d_Model_reckonAll_123 hl (k := 3) rfl rfl (by decide) rfl (fun ls hl => ?_)
      refine lv_goto (tgt := 53) hx hb d_Model_reckonAll_126 (by decide) ?_
      exact hK_53 x1 x2 (x3 + 1) u14 _ _ _ hP hD hS (lv_sub hl [1, 2, 3, 0] rfl) h
    · replace h := h.2 c16
      refine lv_aload_n hx hb d_Model_reckonAll_80 rfl (lv_at hl 0 rfl) ?_
      refine lv_iload_n hx hb d_Model_reckonAll_81 rfl (lv_at hl 1 rfl) ?_
      refine lv_iload_n hx hb d_Model_reckonAll_82 rfl (lv_at hl 3 rfl) ?_
      refine same_i C hP hD hS (runV (As := [.int x1, .int x3]) (rest := []) C hP hD (m_Model_behindUse N g u14 x1 x3  _ h H.size) kw_1069 kw_1071 kp_37 kw_12 kw_1072 hd_Model_behindUse ⟨Nat.le_of_ble_eq_true rfl, Nat.le_of_ble_eq_true rfl⟩ ⟨Nat.le_of_ble_eq_true rfl, Nat.le_of_ble_eq_true rfl⟩ 0 rfl rfl rfl rfl hl.1 (Nat.le_of_ble_eq_true rfl) d_Model_reckonAll_83) (fun r18 u17 H locs h hP hD hS => ?_)
      replace hP : va_P D CL (wModel k g u14) H := hP
      replace hD : va_D A (wModel k g u14) := hD
      try dsimp only at h
      refine lv_istore (lv' := [(4, .int r18), (0, .ref (g 0)), (1, .int x1), (2, .int x2), (3, .int x3)]) hx hb d_Model_reckonAll_86 hl (by decide) rfl (fun ls hl => ?_)
      refine lv_aload_n hx hb d_Model_reckonAll_88 rfl (lv_at hl 1 rfl) ?_
      refine lv_bipush (v := 6) hx hb d_Model_reckonAll_89 (by decide) ?_
      refine lv_aload_n hx hb d_Model_reckonAll_91 rfl (lv_at hl 1 rfl) ?_
      refine va_get (D := D) (ci := 8) (v := .int (u14 23 0)) (C := R_Model) (T := F_Model) (N := 40) hx hb hts in_Model hown hK hP 0 rfl rfl 23 (by decide) (hts _ kw_885) (fun _ h9 => h9) rfl d_Model_reckonAll_92 ?_
      refine lv_imul hx hb d_Model_reckonAll_95 ?_
      refine lv_iload_n hx hb d_Model_reckonAll_96 rfl (lv_at hl 4 rfl) ?_
      refine lv_iadd hx hb d_Model_reckonAll_97 ?_
      refine same_i C hP hD hS (runV (As := [.int ((6 * (u14 23 0)) + x3)]) (rest := []) C hP hD (m_Model_costOfUse N g u14 ((6 * (u14 23 0)) + x3)  _ h H.size) kw_1073 kw_1075 kp_38 kw_12 kw_1076 hd_Model_costOfUse ⟨Nat.le_of_ble_eq_true rfl, Nat.le_of_ble_eq_true rfl⟩ ⟨Nat.le_of_ble_eq_true rfl, Nat.le_of_ble_eq_true rfl⟩ 0 rfl rfl rfl rfl hl.1 (Nat.le_of_ble_eq_true rfl) d_Model_reckonAll_98) (fun r20 u19 H locs h hP hD hS => ?_)
      replace hP : va_P D CL (wModel k g u14) H := hP
      replace hD : va_D A (wModel k g u14) := hD
      try dsimp only at h
      refine lv_aload_n hx hb d_Model_reckonAll_101 rfl (lv_at hl 1 rfl) ?_
      refine lv_iload hx hb d_Model_reckonAll_102 (lv_at hl 0 rfl) ?_
      refine lv_iload_n hx hb d_Model_reckonAll_104 rfl (lv_at hl 2 rfl) ?_
      refine same_i C hP hD hS (runV (As := [.int r18, .int x1]) (rest := [.int r20]) C hP hD (m_Model_alone N g u14 r18 x1  _ h H.size) kw_1081 kw_1083 kp_40 kw_12 kw_1084 hd_Model_alone ⟨Nat.le_of_ble_eq_true rfl, Nat.le_of_ble_eq_true rfl⟩ ⟨Nat.le_of_ble_eq_true rfl, Nat.le_of_ble_eq_true rfl⟩ 0 rfl rfl rfl rfl hl.1 (Nat.le_of_ble_eq_true rfl) d_Model_reckonAll_105) (fun r22 u21 H locs h hP hD hS => ?_)
      replace hP : va_P D CL (wModel k g u14) H := hP
      replace hD : va_D A (wModel k g u14) := hD
      try dsimp only at h
      refine lv_iadd hx hb d_Model_reckonAll_108 ?_
      refine lv_istore (lv' := [(5, .int (r20 + r22)), (4, .int r18), (0, .ref (g 0)), (1, .int x1), (2, .int x2), (3, .int x3)]) hx hb d_Model_reckonAll_109 hl (by decide) rfl (fun ls hl => ?_)
      refine lv_iload hx hb d_Model_reckonAll_111 (lv_at hl 0 rfl) ?_
      refine lv_iload_n hx hb d_Model_reckonAll_113 rfl (lv_at hl 4 rfl) ?_
      refine lv_icmp_ge (tgt := 120) hx hb d_Model_reckonAll_114 (by decide) (fun c23 => ?_) (fun c23 => ?_)
      · replace h := h.1 c23
        exact t_Model_reckonAll_120 C N post (wp_Model_reckonAll_72 N post K_53 n) ih x1 x2 x3 u14 _ _ _ hP hD hS (lv_sub hl [2, 3, 4, 5] rfl) h
      · replace h := h.2 c23
        refine lv_iload hx hb d_Model_reckonAll_117 (lv_at hl 0 rfl) ?_
        refine lv_istore_n (lv' := [(2, .int (r20 + r22)), (5, .int (r20 + r22)), (4, .int r18), (0, .ref (g 0)), (1, .int x1), (3, .int x3)]) hx hb d_Model_reckonAll_119 rfl hl (by decide) rfl (fun ls hl => ?_)
        exact t_Model_reckonAll_120 C N post (wp_Model_reckonAll_72 N post K_53 n) ih x1 (r20 + r22) x3 u14 _ _ _ hP hD hS (lv_sub hl [3, 4, 0, 5] rfl) h
set_option maxHeartbeats 4000000 in
set_option maxRecDepth 100000 in
theorem t_Model_reckonAll_53 {p : Program} {l : Launch} {e : Env} {s : State} {m : MethodId} {args : Array Value} {below : List Frame} {meth : Method} {c : Code} {A : Nat → Prop} {D : va_G} {k : Nat → ClassId} {g : Nat → Nat} (C : Cx p s m args meth c D k "PromotionTillModel" b_Model_reckonAll 6 none A) (N : Nat) (post : ((St)) → Prop) (K_6 : Int32 → (St) → Prop) (hK_6 : ∀ (x1 : Int32) (μ : (St)) (H : Heap) (locs : List Loc) (ls : Array Slot), va_P D CL (wModel k g μ) H → va_D A (wModel k g μ) → va_S A s.heap H locs → lv_has ls 6 [(0, .ref (g 0)), (1, .int x1)] → K_6 x1 μ → W p l e rm_Model_reckonAll s m args below meth c H locs 0 0 (MQ below (va_Qv post (fun (u : (St)) t => va_P D CL (wModel k g u) t.heap ∧ va_D A (wModel k g u)) A) args s rm_Model_reckonAll.cells rm_Model_reckonAll.slots A) (F0 m 6 ls [])) :
    ∀ (n : Nat) (x1 : Int32) (x2 : Int32) (x3 : Int32) (μ : (St)) (H : Heap) (locs : List Loc) (ls : Array Slot), va_P D CL (wModel k g μ) H → va_D A (wModel k g μ) → va_S A s.heap H locs → lv_has ls 6 [(0, .ref (g 0)), (1, .int x1), (2, .int x2), (3, .int x3)] → wp_Model_reckonAll_53 N post K_6 n x1 x2 x3 μ → W p l e rm_Model_reckonAll s m args below meth c H locs 0 0 (MQ below (va_Qv post (fun (u : (St)) t => va_P D CL (wModel k g u) t.heap ∧ va_D A (wModel k g u)) A) args s rm_Model_reckonAll.cells rm_Model_reckonAll.slots A) (F0 m 53 ls []) := by
  obtain ⟨hx, hb, hr, hlk, hml, hown, hts, hK, hA⟩ := id C
  intro n
  induction n with
  | zero =>
    intro x1 x2 x3 μ H locs ls hP hD hS hl h
    exact absurd h (by simp [wp_Model_reckonAll_53])
  | succ n ih =>
    intro x1 x2 x3 μ H locs ls hP hD hS hl h
    rw [wp_Model_reckonAll_53] at h
    refine lv_iload_n hx hb d_Model_reckonAll_53 rfl (lv_at hl 3 rfl) ?_
    refine lv_bipush (v := 6) hx hb d_Model_reckonAll_54 (by decide) ?_
    refine lv_icmp_ge (tgt := 129) hx hb d_Model_reckonAll_56 (by decide) (fun c9 => ?_) (fun c9 => ?_)
    · replace h := h.1 c9
      refine lv_aload_n hx hb d_Model_reckonAll_129 rfl (lv_at hl 0 rfl) ?_
      refine va_get (D := D) (ci := 8) (v := .ref (g 25)) (C := R_Model) (T := F_Model) (N := 40) hx hb hts in_Model hown hK hP 0 rfl rfl 30 (by decide) (hts _ kw_892) (fun _ h9 => h9) rfl d_Model_reckonAll_130 ?_
      refine lv_iload_n hx hb d_Model_reckonAll_133 rfl (lv_at hl 1 rfl) ?_
      refine lv_iload_n hx hb d_Model_reckonAll_134 rfl (lv_at hl 2 rfl) ?_
      obtain ⟨hi10, h⟩ := h
      refine va_iast hx hb hK hP hD hS 25 0 rfl rfl hi10 d_Model_reckonAll_135 (fun H locs hP hD hS => ?_)
      obtain ⟨μ11, eμ11⟩ : ∃ z, z = s2 μ 30 (Int32.toNatClampNeg x1) x2 := ⟨_, rfl⟩
      replace hP : va_P D CL (wModel k g μ11) H := by rw [eμ11]; exact hP
      replace hD : va_D A (wModel k g μ11) := by rw [eμ11]; exact hD
      replace h := h μ11 eμ11
      refine lv_iinc (v := x1 + 1) (lv' := [(1, .int (x1 + 1)), (0, .ref (g 0)), (2, .int x2), (3, .int x3)]) hx hb d_Model_reckonAll_136 hl (k := 1) rfl rfl (by decide) rfl (fun ls hl => ?_)
      refine lv_goto (tgt := 6) hx hb d_Model_reckonAll_139 (by decide) ?_
      exact hK_6 (x1 + 1) μ11 _ _ _ hP hD hS (lv_sub hl [1, 0] rfl) h
    · replace h := h.2 c9
      refine lv_aload_n hx hb d_Model_reckonAll_59 rfl (lv_at hl 0 rfl) ?_
      refine lv_bipush (v := 6) hx hb d_Model_reckonAll_60 (by decide) ?_
      refine lv_aload_n hx hb d_Model_reckonAll_62 rfl (lv_at hl 0 rfl) ?_
      refine va_get (D := D) (ci := 8) (v := .int (μ 23 0)) (C := R_Model) (T := F_Model) (N := 40) hx hb hts in_Model hown hK hP 0 rfl rfl 23 (by decide) (hts _ kw_885) (fun _ h9 => h9) rfl d_Model_reckonAll_63 ?_
      refine lv_imul hx hb d_Model_reckonAll_66 ?_
      refine lv_iload_n hx hb d_Model_reckonAll_67 rfl (lv_at hl 3 rfl) ?_
      refine lv_iadd hx hb d_Model_reckonAll_68 ?_
      refine same_v C hP hD hS (runV (As := [.int ((6 * (μ 23 0)) + x3)]) (rest := []) C hP hD (m_Model_beginUses N g μ ((6 * (μ 23 0)) + x3)  _ h H.size) kw_1061 kw_1063 kp_35 kw_12 kw_1064 hd_Model_beginUses ⟨Nat.le_of_ble_eq_true rfl, Nat.le_of_ble_eq_true rfl⟩ ⟨Nat.le_of_ble_eq_true rfl, Nat.le_of_ble_eq_true rfl⟩ 0 rfl rfl rfl rfl hl.1 (Nat.le_of_ble_eq_true rfl) d_Model_reckonAll_69) (fun u12 H locs h hP hD hS => ?_)
      replace hP : va_P D CL (wModel k g u12) H := hP
      replace hD : va_D A (wModel k g u12) := hD
      try dsimp only at h
      exact t_Model_reckonAll_72 C N post (wp_Model_reckonAll_53 N post K_6 n) ih N x1 x2 x3 u12 _ _ _ hP hD hS (lv_sub hl [0, 1, 2, 3] rfl) h
set_option maxHeartbeats 4000000 in
set_option maxRecDepth 100000 in
theorem t_Model_reckonAll_23 {p : Program} {l : Launch} {e : Env} {s : State} {m : MethodId} {args : Array Value} {below : List Frame} {meth : Method} {c : Code} {A : Nat → Prop} {D : va_G} {k : Nat → ClassId} {g : Nat → Nat} (C : Cx p s m args meth c D k "PromotionTillModel" b_Model_reckonAll 6 none A) (N : Nat) (post : ((St)) → Prop) (K_6 : Int32 → (St) → Prop) (hK_6 : ∀ (x1 : Int32) (μ : (St)) (H : Heap) (locs : List Loc) (ls : Array Slot), va_P D CL (wModel k g μ) H → va_D A (wModel k g μ) → va_S A s.heap H locs → lv_has ls 6 [(0, .ref (g 0)), (1, .int x1)] → K_6 x1 μ → W p l e rm_Model_reckonAll s m args below meth c H locs 0 0 (MQ below (va_Qv post (fun (u : (St)) t => va_P D CL (wModel k g u) t.heap ∧ va_D A (wModel k g u)) A) args s rm_Model_reckonAll.cells rm_Model_reckonAll.slots A) (F0 m 6 ls [])) :
    ∀ (n : Nat) (x1 : Int32) (x2 : Int32) (x3 : Int32) (μ : (St)) (H : Heap) (locs : List Loc) (ls : Array Slot), va_P D CL (wModel k g μ) H → va_D A (wModel k g μ) → va_S A s.heap H locs → lv_has ls 6 [(0, .ref (g 0)), (1, .int x1), (2, .int x2), (3, .int x3)] → wp_Model_reckonAll_23 N post K_6 n x1 x2 x3 μ → W p l e rm_Model_reckonAll s m args below meth c H locs 0 0 (MQ below (va_Qv post (fun (u : (St)) t => va_P D CL (wModel k g u) t.heap ∧ va_D A (wModel k g u)) A) args s rm_Model_reckonAll.cells rm_Model_reckonAll.slots A) (F0 m 23 ls []) := by
  obtain ⟨hx, hb, hr, hlk, hml, hown, hts, hK, hA⟩ := id C
  intro n
  induction n with
  | zero =>
    intro x1 x2 x3 μ H locs ls hP hD hS hl h
    exact absurd h (by simp [wp_Model_reckonAll_23])
  | succ n ih =>
    intro x1 x2 x3 μ H locs ls hP hD hS hl h
    rw [wp_Model_reckonAll_23] at h
    refine lv_iload_n hx hb d_Model_reckonAll_23 rfl (lv_at hl 3 rfl) ?_
    refine lv_bipush (v := 12) hx hb d_Model_reckonAll_24 (by decide) ?_
    refine lv_icmp_ge (tgt := 51) hx hb d_Model_reckonAll_26 (by decide) (fun c6 => ?_) (fun c6 => ?_)
    · replace h := h.1 c6
      refine lv_iconst (v := 0) hx hb d_Model_reckonAll_51 (by decide) ?_
      refine lv_istore_n (lv' := [(3, .int 0), (0, .ref (g 0)), (1, .int x1), (2, .int x2)]) hx hb d_Model_reckonAll_52 rfl hl (by decide) rfl (fun ls hl => ?_)
      exact t_Model_reckonAll_53 C N post (K_6) hK_6 N x1 x2 0 μ _ _ _ hP hD hS (lv_sub hl [1, 2, 3, 0] rfl) h
    · replace h := h.2 c6
      refine lv_iload_n hx hb d_Model_reckonAll_29 rfl (lv_at hl 2 rfl) ?_
      refine lv_aload_n hx hb d_Model_reckonAll_30 rfl (lv_at hl 0 rfl) ?_
      refine va_get (D := D) (ci := 8) (v := .ref (g 20)) (C := R_Model) (T := F_Model) (N := 40) hx hb hts in_Model hown hK hP 0 rfl rfl 24 (by decide) (hts _ kw_886) (fun _ h9 => h9) rfl d_Model_reckonAll_31 ?_
      refine lv_iload_n hx hb d_Model_reckonAll_34 rfl (lv_at hl 3 rfl) ?_
      obtain ⟨hi7, h⟩ := h
      refine va_iald hx hb hK hP 20 0 rfl rfl hi7 d_Model_reckonAll_35 ?_
      refine lv_aload_n hx hb d_Model_reckonAll_36 rfl (lv_at hl 0 rfl) ?_
      refine va_get (D := D) (ci := 8) (v := .ref (g 24)) (C := R_Model) (T := F_Model) (N := 40) hx hb hts in_Model hown hK hP 0 rfl rfl 28 (by decide) (hts _ kw_890) (fun _ h9 => h9) rfl d_Model_reckonAll_37 ?_
      refine lv_iload_n hx hb d_Model_reckonAll_40 rfl (lv_at hl 3 rfl) ?_
      obtain ⟨hi8, h⟩ := h
      refine va_iald hx hb hK hP 24 0 rfl rfl hi8 d_Model_reckonAll_41 ?_
      refine lv_imul hx hb d_Model_reckonAll_42 ?_
      refine lv_iadd hx hb d_Model_reckonAll_43 ?_
      refine lv_istore_n (lv' := [(2, .int (x2 + ((μ 24 (Int32.toNatClampNeg x3)) * (μ 28 (Int32.toNatClampNeg x3))))), (0, .ref (g 0)), (1, .int x1), (3, .int x3)]) hx hb d_Model_reckonAll_44 rfl hl (by decide) rfl (fun ls hl => ?_)
      refine lv_iinc (v := x3 + 1) (lv' := [(3, .int (x3 + 1)), (2, .int (x2 + ((μ 24 (Int32.toNatClampNeg x3)) * (μ 28 (Int32.toNatClampNeg x3))))), (0, .ref (g 0)), (1, .int x1)]) hx hb d_Model_reckonAll_45 hl (k := 3) rfl rfl (by decide) rfl (fun ls hl => ?_)
      refine lv_goto (tgt := 23) hx hb d_Model_reckonAll_48 (by decide) ?_
      exact ih x1 (x2 + ((μ 24 (Int32.toNatClampNeg x3)) * (μ 28 (Int32.toNatClampNeg x3)))) (x3 + 1) μ _ _ _ hP hD hS (lv_sub hl [2, 3, 1, 0] rfl) h
set_option maxHeartbeats 4000000 in
set_option maxRecDepth 100000 in
theorem t_Model_reckonAll_6 {p : Program} {l : Launch} {e : Env} {s : State} {m : MethodId} {args : Array Value} {below : List Frame} {meth : Method} {c : Code} {A : Nat → Prop} {D : va_G} {k : Nat → ClassId} {g : Nat → Nat} (C : Cx p s m args meth c D k "PromotionTillModel" b_Model_reckonAll 6 none A) (N : Nat) (post : ((St)) → Prop) :
    ∀ (n : Nat) (x1 : Int32) (μ : (St)) (H : Heap) (locs : List Loc) (ls : Array Slot), va_P D CL (wModel k g μ) H → va_D A (wModel k g μ) → va_S A s.heap H locs → lv_has ls 6 [(0, .ref (g 0)), (1, .int x1)] → wp_Model_reckonAll_6 N post n x1 μ → W p l e rm_Model_reckonAll s m args below meth c H locs 0 0 (MQ below (va_Qv post (fun (u : (St)) t => va_P D CL (wModel k g u) t.heap ∧ va_D A (wModel k g u)) A) args s rm_Model_reckonAll.cells rm_Model_reckonAll.slots A) (F0 m 6 ls []) := by
  obtain ⟨hx, hb, hr, hlk, hml, hown, hts, hK, hA⟩ := id C
  intro n
  induction n with
  | zero =>
    intro x1 μ H locs ls hP hD hS hl h
    exact absurd h (by simp [wp_Model_reckonAll_6])
  | succ n ih =>
    intro x1 μ H locs ls hP hD hS hl h
    rw [wp_Model_reckonAll_6] at h
    refine lv_iload_n hx hb d_Model_reckonAll_6 rfl (lv_at hl 1 rfl) ?_
    refine lv_aload_n hx hb d_Model_reckonAll_7 rfl (lv_at hl 0 rfl) ?_
    refine va_get (D := D) (ci := 8) (v := .int (μ 29 0)) (C := R_Model) (T := F_Model) (N := 40) hx hb hts in_Model hown hK hP 0 rfl rfl 29 (by decide) (hts _ kw_891) (fun _ h9 => h9) rfl d_Model_reckonAll_8 ?_
    refine lv_icmp_ge (tgt := 142) hx hb d_Model_reckonAll_11 (by decide) (fun c3 => ?_) (fun c3 => ?_)
    · replace h := h.1 c3
      exact ret_v (u := μ) (wf := (fun u : (St) => wModel k g u)) C hP hD hS (Nat.zero_le _) (Nat.zero_le _) h d_Model_reckonAll_142
    · replace h := h.2 c3
      refine lv_aload_n hx hb d_Model_reckonAll_14 rfl (lv_at hl 0 rfl) ?_
      refine lv_iload_n hx hb d_Model_reckonAll_15 rfl (lv_at hl 1 rfl) ?_
      refine same_v C hP hD hS (runV (As := [.int x1]) (rest := []) C hP hD (m_Model_unfold N g μ x1  _ h H.size) kw_1057 kw_1059 kp_34 kw_12 kw_1060 hd_Model_unfold ⟨Nat.le_of_ble_eq_true rfl, Nat.le_of_ble_eq_true rfl⟩ ⟨Nat.le_of_ble_eq_true rfl, Nat.le_of_ble_eq_true rfl⟩ 0 rfl rfl rfl rfl hl.1 (Nat.le_of_ble_eq_true rfl) d_Model_reckonAll_16) (fun u4 H locs h hP hD hS => ?_)
      replace hP : va_P D CL (wModel k g u4) H := hP
      replace hD : va_D A (wModel k g u4) := hD
      try dsimp only at h
      refine lv_iconst (v := 0) hx hb d_Model_reckonAll_19 (by decide) ?_
      refine lv_istore_n (lv' := [(2, .int 0), (0, .ref (g 0)), (1, .int x1)]) hx hb d_Model_reckonAll_20 rfl hl (by decide) rfl (fun ls hl => ?_)
      refine lv_iconst (v := 0) hx hb d_Model_reckonAll_21 (by decide) ?_
      refine lv_istore_n (lv' := [(3, .int 0), (2, .int 0), (0, .ref (g 0)), (1, .int x1)]) hx hb d_Model_reckonAll_22 rfl hl (by decide) rfl (fun ls hl => ?_)
      exact t_Model_reckonAll_23 C N post (wp_Model_reckonAll_6 N post n) ih N x1 0 0 u4 _ _ _ hP hD hS (lv_sub hl [2, 3, 1, 0] rfl) h
set_option maxHeartbeats 4000000 in
set_option maxRecDepth 100000 in
theorem m_Model_reckonAll {l : Launch} {D : va_G} {k : Nat → ClassId} (N : Nat) (g : Nat → Nat) (μ : St) (post : ((St)) → Prop) (h : wp_Model_reckonAll N  μ  post) : Cv l D k y_Model_reckonAll b_Model_reckonAll 6 rm_Model_reckonAll [.ref (g 0)] (wModel k g μ) (fun u : (St) => wModel k g u) post := by
  refine Cv.of (by decide) (Nat.le_of_ble_eq_true rfl) ?_
  intro p e s m below meth c A H locs ls C hP hD hS hl
  obtain ⟨hx, hb, hr, hlk, hml, hown, hts, hK, hA⟩ := id C
  replace hl : lv_has ls 6 [(0, .ref (g 0))] := hl
  unfold wp_Model_reckonAll at h
  refine lv_aload_n hx hb d_Model_reckonAll_0 rfl (lv_at hl 0 rfl) ?_
  refine same_v C hP hD hS (runV (As := []) (rest := []) C hP hD (m_Model_numberAll N g μ   _ h H.size) kw_1053 kw_1055 kp_33 kw_12 kw_1056 hd_Model_numberAll ⟨Nat.le_of_ble_eq_true rfl, Nat.le_of_ble_eq_true rfl⟩ ⟨Nat.le_of_ble_eq_true rfl, Nat.le_of_ble_eq_true rfl⟩ 0 rfl rfl rfl rfl hl.1 (Nat.le_of_ble_eq_true rfl) d_Model_reckonAll_1) (fun u1 H locs h hP hD hS => ?_)
  replace hP : va_P D CL (wModel k g u1) H := hP
  replace hD : va_D A (wModel k g u1) := hD
  try dsimp only at h
  refine lv_iconst (v := 0) hx hb d_Model_reckonAll_4 (by decide) ?_
  refine lv_istore_n (lv' := [(1, .int 0), (0, .ref (g 0))]) hx hb d_Model_reckonAll_5 rfl hl (by decide) rfl (fun ls hl => ?_)
  exact t_Model_reckonAll_6 C N post   N 0 u1 _ _ _ hP hD hS (lv_sub hl [1, 0] rfl) h
set_option maxHeartbeats 4000000 in
set_option maxRecDepth 100000 in
theorem t_Model_others_35 {p : Program} {l : Launch} {e : Env} {s : State} {m : MethodId} {args : Array Value} {below : List Frame} {meth : Method} {c : Code} {A : Nat → Prop} {D : va_G} {k : Nat → ClassId} {g : Nat → Nat} (C : Cx p s m args meth c D k "PromotionTillModel" b_Model_others 3 (some .int) A) (N : Nat) (μ : St) (post : Int32 → (Unit) → Prop) (K_4 : Int32 → Int32 → Prop) (hK_4 : ∀ (x1 : Int32) (x2 : Int32) (H : Heap) (locs : List Loc) (ls : Array Slot), va_P D CL (wModel k g μ) H → va_D A (wModel k g μ) → va_S A s.heap H locs → lv_has ls 3 [(0, .ref (g 0)), (1, .int x1), (2, .int x2)] → K_4 x1 x2 → W p l e rm_Model_others s m args below meth c H locs 0 0 (MQ below (va_Qi post (fun (u : Unit) t => va_P D CL (wModel k g μ) t.heap ∧ va_D A (wModel k g μ)) A) args s rm_Model_others.cells rm_Model_others.slots A) (F0 m 4 ls [])) :
    ∀ (x1 : Int32) (x2 : Int32) (H : Heap) (locs : List Loc) (ls : Array Slot), va_P D CL (wModel k g μ) H → va_D A (wModel k g μ) → va_S A s.heap H locs → lv_has ls 3 [(0, .ref (g 0)), (1, .int x1), (2, .int x2)] → wp_Model_others_35 N μ post K_4 x1 x2 → W p l e rm_Model_others s m args below meth c H locs 0 0 (MQ below (va_Qi post (fun (u : Unit) t => va_P D CL (wModel k g μ) t.heap ∧ va_D A (wModel k g μ)) A) args s rm_Model_others.cells rm_Model_others.slots A) (F0 m 35 ls []) := by
  obtain ⟨hx, hb, hr, hlk, hml, hown, hts, hK, hA⟩ := id C
  intro x1 x2 H locs ls hP hD hS hl h
  unfold wp_Model_others_35 at h
  refine lv_iinc (v := x2 + 1) (lv' := [(2, .int (x2 + 1)), (0, .ref (g 0)), (1, .int x1)]) hx hb d_Model_others_35 hl (k := 2) rfl rfl (by decide) rfl (fun ls hl => ?_)
  refine lv_goto (tgt := 4) hx hb d_Model_others_38 (by decide) ?_
  exact hK_4 x1 (x2 + 1) _ _ _ hP hD hS (lv_sub hl [1, 2, 0] rfl) h
set_option maxHeartbeats 4000000 in
set_option maxRecDepth 100000 in
theorem t_Model_others_4 {p : Program} {l : Launch} {e : Env} {s : State} {m : MethodId} {args : Array Value} {below : List Frame} {meth : Method} {c : Code} {A : Nat → Prop} {D : va_G} {k : Nat → ClassId} {g : Nat → Nat} (C : Cx p s m args meth c D k "PromotionTillModel" b_Model_others 3 (some .int) A) (N : Nat) (μ : St) (post : Int32 → (Unit) → Prop) :
    ∀ (n : Nat) (x1 : Int32) (x2 : Int32) (H : Heap) (locs : List Loc) (ls : Array Slot), va_P D CL (wModel k g μ) H → va_D A (wModel k g μ) → va_S A s.heap H locs → lv_has ls 3 [(0, .ref (g 0)), (1, .int x1), (2, .int x2)] → wp_Model_others_4 N μ post n x1 x2 → W p l e rm_Model_others s m args below meth c H locs 0 0 (MQ below (va_Qi post (fun (u : Unit) t => va_P D CL (wModel k g μ) t.heap ∧ va_D A (wModel k g μ)) A) args s rm_Model_others.cells rm_Model_others.slots A) (F0 m 4 ls []) := by
  obtain ⟨hx, hb, hr, hlk, hml, hown, hts, hK, hA⟩ := id C
  intro n
  induction n with
  | zero =>
    intro x1 x2 H locs ls hP hD hS hl h
    exact absurd h (by simp [wp_Model_others_4])
  | succ n ih =>
    intro x1 x2 H locs ls hP hD hS hl h
    rw [wp_Model_others_4] at h
    refine lv_iload_n hx hb d_Model_others_4 rfl (lv_at hl 2 rfl) ?_
    refine lv_aload_n hx hb d_Model_others_5 rfl (lv_at hl 0 rfl) ?_
    refine va_get (D := D) (ci := 8) (v := .int (μ 22 0)) (C := R_Model) (T := F_Model) (N := 40) hx hb hts in_Model hown hK hP 0 rfl rfl 22 (by decide) (hts _ kw_884) (fun _ h9 => h9) rfl d_Model_others_6 ?_
    refine lv_icmp_ge (tgt := 41) hx hb d_Model_others_9 (by decide) (fun c1 => ?_) (fun c1 => ?_)
    · replace h := h.1 c1
      refine lv_iload_n hx hb d_Model_others_41 rfl (lv_at hl 1 rfl) ?_
      exact ret_i (u := ()) (wf := (fun u : Unit => wModel k g μ)) C hP hD hS (Nat.zero_le _) (Nat.zero_le _) h d_Model_others_42
    · replace h := h.2 c1
      refine lv_aload_n hx hb d_Model_others_12 rfl (lv_at hl 0 rfl) ?_
      refine va_get (D := D) (ci := 8) (v := .ref (g 22)) (C := R_Model) (T := F_Model) (N := 40) hx hb hts in_Model hown hK hP 0 rfl rfl 26 (by decide) (hts _ kw_888) (fun _ h9 => h9) rfl d_Model_others_13 ?_
      refine lv_aload_n hx hb d_Model_others_16 rfl (lv_at hl 0 rfl) ?_
      refine va_get (D := D) (ci := 8) (v := .ref (g 18)) (C := R_Model) (T := F_Model) (N := 40) hx hb hts in_Model hown hK hP 0 rfl rfl 20 (by decide) (hts _ kw_882) (fun _ h9 => h9) rfl d_Model_others_17 ?_
      refine lv_iload_n hx hb d_Model_others_20 rfl (lv_at hl 2 rfl) ?_
      obtain ⟨hi2, h⟩ := h
      refine va_iald hx hb hK hP 18 0 rfl rfl hi2 d_Model_others_21 ?_
      obtain ⟨hi3, h⟩ := h
      refine va_iald hx hb hK hP 22 0 rfl rfl hi3 d_Model_others_22 ?_
      refine lv_if_ne (tgt := 35) hx hb d_Model_others_23 (by decide) (fun c4 => ?_) (fun c4 => ?_)
      · replace h := h.1 c4
        exact t_Model_others_35 C N μ post (wp_Model_others_4 N μ post n) ih x1 x2 _ _ _ hP hD hS (lv_sub hl [0, 1, 2] rfl) h
      · replace h := h.2 c4
        refine lv_iload_n hx hb d_Model_others_26 rfl (lv_at hl 1 rfl) ?_
        refine lv_aload_n hx hb d_Model_others_27 rfl (lv_at hl 0 rfl) ?_
        refine va_get (D := D) (ci := 8) (v := .ref (g 19)) (C := R_Model) (T := F_Model) (N := 40) hx hb hts in_Model hown hK hP 0 rfl rfl 21 (by decide) (hts _ kw_883) (fun _ h9 => h9) rfl d_Model_others_28 ?_
        refine lv_iload_n hx hb d_Model_others_31 rfl (lv_at hl 2 rfl) ?_
        obtain ⟨hi5, h⟩ := h
        refine va_iald hx hb hK hP 19 0 rfl rfl hi5 d_Model_others_32 ?_
        refine lv_iadd hx hb d_Model_others_33 ?_
        refine lv_istore_n (lv' := [(1, .int (x1 + (μ 21 (Int32.toNatClampNeg x2)))), (0, .ref (g 0)), (2, .int x2)]) hx hb d_Model_others_34 rfl hl (by decide) rfl (fun ls hl => ?_)
        exact t_Model_others_35 C N μ post (wp_Model_others_4 N μ post n) ih (x1 + (μ 21 (Int32.toNatClampNeg x2))) x2 _ _ _ hP hD hS (lv_sub hl [1, 0, 2] rfl) h
set_option maxHeartbeats 4000000 in
set_option maxRecDepth 100000 in
theorem m_Model_others {l : Launch} {D : va_G} {k : Nat → ClassId} (N : Nat) (g : Nat → Nat) (μ : St) (post : Int32 → (Unit) → Prop) (h : wp_Model_others N  μ  post) : Ci l D k y_Model_others b_Model_others 3 .int rm_Model_others [.ref (g 0)] (wModel k g μ) (fun u : Unit => wModel k g μ) post := by
  refine Ci.of (by decide) (Nat.le_of_ble_eq_true rfl) ?_
  intro p e s m below meth c A H locs ls C hP hD hS hl
  obtain ⟨hx, hb, hr, hlk, hml, hown, hts, hK, hA⟩ := id C
  replace hl : lv_has ls 3 [(0, .ref (g 0))] := hl
  unfold wp_Model_others at h
  refine lv_iconst (v := 0) hx hb d_Model_others_0 (by decide) ?_
  refine lv_istore_n (lv' := [(1, .int 0), (0, .ref (g 0))]) hx hb d_Model_others_1 rfl hl (by decide) rfl (fun ls hl => ?_)
  refine lv_iconst (v := 0) hx hb d_Model_others_2 (by decide) ?_
  refine lv_istore_n (lv' := [(2, .int 0), (1, .int 0), (0, .ref (g 0))]) hx hb d_Model_others_3 rfl hl (by decide) rfl (fun ls hl => ?_)
  exact t_Model_others_4 C N μ post   N 0 0 _ _ _ hP hD hS (lv_sub hl [2, 1, 0] rfl) h
set_option maxHeartbeats 4000000 in
set_option maxRecDepth 100000 in
theorem t_Model_takeBasket_16 {p : Program} {l : Launch} {e : Env} {s : State} {m : MethodId} {args : Array Value} {below : List Frame} {meth : Method} {c : Code} {A : Nat → Prop} {D : va_G} {k : Nat → ClassId} {g : Nat → Nat} (C : Cx p s m args meth c D k "PromotionTillModel" b_Model_takeBasket 2 none A) (N : Nat) (post : ((St)) → Prop) :
    ∀ (n : Nat) (x1 : Int32) (μ : (St)) (H : Heap) (locs : List Loc) (ls : Array Slot), va_P D CL (wModel k g μ) H → va_D A (wModel k g μ) → va_S A s.heap H locs → lv_has ls 2 [(0, .ref (g 0)), (1, .int x1)] → wp_Model_takeBasket_16 N post n x1 μ → W p l e rm_Model_takeBasket s m args below meth c H locs 0 0 (MQ below (va_Qv post (fun (u : (St)) t => va_P D CL (wModel k g u) t.heap ∧ va_D A (wModel k g u)) A) args s rm_Model_takeBasket.cells rm_Model_takeBasket.slots A) (F0 m 16 ls []) := by
  obtain ⟨hx, hb, hr, hlk, hml, hown, hts, hK, hA⟩ := id C
  intro n
  induction n with
  | zero =>
    intro x1 μ H locs ls hP hD hS hl h
    exact absurd h (by simp [wp_Model_takeBasket_16])
  | succ n ih =>
    intro x1 μ H locs ls hP hD hS hl h
    rw [wp_Model_takeBasket_16] at h
    refine lv_iload_n hx hb d_Model_takeBasket_16 rfl (lv_at hl 1 rfl) ?_
    refine lv_aload_n hx hb d_Model_takeBasket_17 rfl (lv_at hl 0 rfl) ?_
    refine va_get (D := D) (ci := 8) (v := .int (μ 9 0)) (C := R_Model) (T := F_Model) (N := 40) hx hb hts in_Model hown hK hP 0 rfl rfl 9 (by decide) (hts _ kw_871) (fun _ h9 => h9) rfl d_Model_takeBasket_18 ?_
    refine lv_icmp_ge (tgt := 59) hx hb d_Model_takeBasket_21 (by decide) (fun c3 => ?_) (fun c3 => ?_)
    · replace h := h.1 c3
      exact ret_v (u := μ) (wf := (fun u : (St) => wModel k g u)) C hP hD hS (Nat.zero_le _) (Nat.zero_le _) h d_Model_takeBasket_59
    · replace h := h.2 c3
      refine lv_aload_n hx hb d_Model_takeBasket_24 rfl (lv_at hl 0 rfl) ?_
      refine va_get (D := D) (ci := 8) (v := .ref (g 18)) (C := R_Model) (T := F_Model) (N := 40) hx hb hts in_Model hown hK hP 0 rfl rfl 20 (by decide) (hts _ kw_882) (fun _ h9 => h9) rfl d_Model_takeBasket_25 ?_
      refine lv_iload_n hx hb d_Model_takeBasket_28 rfl (lv_at hl 1 rfl) ?_
      refine lv_aload_n hx hb d_Model_takeBasket_29 rfl (lv_at hl 0 rfl) ?_
      refine va_get (D := D) (ci := 8) (v := .ref (g 9)) (C := R_Model) (T := F_Model) (N := 40) hx hb hts in_Model hown hK hP 0 rfl rfl 8 (by decide) (hts _ kw_870) (fun _ h9 => h9) rfl d_Model_takeBasket_30 ?_
      refine lv_iload_n hx hb d_Model_takeBasket_33 rfl (lv_at hl 1 rfl) ?_
      obtain ⟨hi4, h⟩ := h
      refine va_iald hx hb hK hP 9 0 rfl rfl hi4 d_Model_takeBasket_34 ?_
      obtain ⟨hi5, h⟩ := h
      refine va_iast hx hb hK hP hD hS 18 0 rfl rfl hi5 d_Model_takeBasket_35 (fun H locs hP hD hS => ?_)
      obtain ⟨μ6, eμ6⟩ : ∃ z, z = s2 μ 20 (Int32.toNatClampNeg x1) (μ 8 (Int32.toNatClampNeg x1)) := ⟨_, rfl⟩
      replace hP : va_P D CL (wModel k g μ6) H := by rw [eμ6]; exact hP
      replace hD : va_D A (wModel k g μ6) := by rw [eμ6]; exact hD
      replace h := h μ6 eμ6
      refine lv_aload_n hx hb d_Model_takeBasket_36 rfl (lv_at hl 0 rfl) ?_
      refine va_get (D := D) (ci := 8) (v := .ref (g 19)) (C := R_Model) (T := F_Model) (N := 40) hx hb hts in_Model hown hK hP 0 rfl rfl 21 (by decide) (hts _ kw_883) (fun _ h9 => h9) rfl d_Model_takeBasket_37 ?_
      refine lv_iload_n hx hb d_Model_takeBasket_40 rfl (lv_at hl 1 rfl) ?_
      refine lv_aload_n hx hb d_Model_takeBasket_41 rfl (lv_at hl 0 rfl) ?_
      refine va_get (D := D) (ci := 8) (v := .ref (g 1)) (C := R_Model) (T := F_Model) (N := 40) hx hb hts in_Model hown hK hP 0 rfl rfl 0 (by decide) (hts _ kw_862) (fun _ h9 => h9) rfl d_Model_takeBasket_42 ?_
      refine lv_aload_n hx hb d_Model_takeBasket_45 rfl (lv_at hl 0 rfl) ?_
      refine va_get (D := D) (ci := 8) (v := .ref (g 9)) (C := R_Model) (T := F_Model) (N := 40) hx hb hts in_Model hown hK hP 0 rfl rfl 8 (by decide) (hts _ kw_870) (fun _ h9 => h9) rfl d_Model_takeBasket_46 ?_
      refine lv_iload_n hx hb d_Model_takeBasket_49 rfl (lv_at hl 1 rfl) ?_
      obtain ⟨hi7, h⟩ := h
      refine va_iald hx hb hK hP 9 0 rfl rfl hi7 d_Model_takeBasket_50 ?_
      obtain ⟨hi8, h⟩ := h
      refine va_iald hx hb hK hP 1 0 rfl rfl hi8 d_Model_takeBasket_51 ?_
      obtain ⟨hi9, h⟩ := h
      refine va_iast hx hb hK hP hD hS 19 0 rfl rfl hi9 d_Model_takeBasket_52 (fun H locs hP hD hS => ?_)
      obtain ⟨μ10, eμ10⟩ : ∃ z, z = s2 μ6 21 (Int32.toNatClampNeg x1) (μ6 0 (Int32.toNatClampNeg (μ6 8 (Int32.toNatClampNeg x1)))) := ⟨_, rfl⟩
      replace hP : va_P D CL (wModel k g μ10) H := by rw [eμ10]; exact hP
      replace hD : va_D A (wModel k g μ10) := by rw [eμ10]; exact hD
      replace h := h μ10 eμ10
      refine lv_iinc (v := x1 + 1) (lv' := [(1, .int (x1 + 1)), (0, .ref (g 0))]) hx hb d_Model_takeBasket_53 hl (k := 1) rfl rfl (by decide) rfl (fun ls hl => ?_)
      refine lv_goto (tgt := 16) hx hb d_Model_takeBasket_56 (by decide) ?_
      exact ih (x1 + 1) μ10 _ _ _ hP hD hS (lv_sub hl [1, 0] rfl) h
set_option maxHeartbeats 4000000 in
set_option maxRecDepth 100000 in
theorem m_Model_takeBasket {l : Launch} {D : va_G} {k : Nat → ClassId} (N : Nat) (g : Nat → Nat) (μ : St) (post : ((St)) → Prop) (h : wp_Model_takeBasket N  μ  post) : Cv l D k y_Model_takeBasket b_Model_takeBasket 2 rm_Model_takeBasket [.ref (g 0)] (wModel k g μ) (fun u : (St) => wModel k g u) post := by
  refine Cv.of (by decide) (Nat.le_of_ble_eq_true rfl) ?_
  intro p e s m below meth c A H locs ls C hP hD hS hl
  obtain ⟨hx, hb, hr, hlk, hml, hown, hts, hK, hA⟩ := id C
  replace hl : lv_has ls 2 [(0, .ref (g 0))] := hl
  unfold wp_Model_takeBasket at h
  refine lv_aload_n hx hb d_Model_takeBasket_0 rfl (lv_at hl 0 rfl) ?_
  refine lv_bipush (v := 12) hx hb d_Model_takeBasket_1 (by decide) ?_
  refine va_put (D := D) (ci := 8) (v := .int 12) (ty := .int) (C := R_Model) (T := F_Model) (N := 40) hx hb hts in_Model t_Model tt_Model n_Model hown hK hP hD hS 0 rfl rfl 23 (by decide) (hts _ kw_885) (fun _ h9 => h9) rfl (by decide +kernel) rfl rfl (Nat.le_of_ble_eq_true rfl) d_Model_takeBasket_3 (fun H locs hP hD hS => ?_)
  obtain ⟨μ1, eμ1⟩ : ∃ z, z = s2 μ 23 0 12 := ⟨_, rfl⟩
  replace hP : va_P D CL (wModel k g μ1) H := by rw [eμ1]; exact hP
  replace hD : va_D A (wModel k g μ1) := by rw [eμ1]; exact hD
  replace h := h μ1 eμ1
  refine lv_aload_n hx hb d_Model_takeBasket_6 rfl (lv_at hl 0 rfl) ?_
  refine lv_aload_n hx hb d_Model_takeBasket_7 rfl (lv_at hl 0 rfl) ?_
  refine va_get (D := D) (ci := 8) (v := .int (μ1 9 0)) (C := R_Model) (T := F_Model) (N := 40) hx hb hts in_Model hown hK hP 0 rfl rfl 9 (by decide) (hts _ kw_871) (fun _ h9 => h9) rfl d_Model_takeBasket_8 ?_
  refine va_put (D := D) (ci := 8) (v := .int (μ1 9 0)) (ty := .int) (C := R_Model) (T := F_Model) (N := 40) hx hb hts in_Model t_Model tt_Model n_Model hown hK hP hD hS 0 rfl rfl 22 (by decide) (hts _ kw_884) (fun _ h9 => h9) rfl (by decide +kernel) rfl rfl (Nat.le_of_ble_eq_true rfl) d_Model_takeBasket_11 (fun H locs hP hD hS => ?_)
  obtain ⟨μ2, eμ2⟩ : ∃ z, z = s2 μ1 22 0 (μ1 9 0) := ⟨_, rfl⟩
  replace hP : va_P D CL (wModel k g μ2) H := by rw [eμ2]; exact hP
  replace hD : va_D A (wModel k g μ2) := by rw [eμ2]; exact hD
  replace h := h μ2 eμ2
  refine lv_iconst (v := 0) hx hb d_Model_takeBasket_14 (by decide) ?_
  refine lv_istore_n (lv' := [(1, .int 0), (0, .ref (g 0))]) hx hb d_Model_takeBasket_15 rfl hl (by decide) rfl (fun ls hl => ?_)
  exact t_Model_takeBasket_16 C N post   N 0 μ2 _ _ _ hP hD hS (lv_sub hl [1, 0] rfl) h
set_option maxHeartbeats 4000000 in
set_option maxRecDepth 100000 in
theorem m_Model_leastTotal {l : Launch} {D : va_G} {k : Nat → ClassId} (N : Nat) (g : Nat → Nat) (μ : St) (post : Int32 → ((St)) → Prop) (h : wp_Model_leastTotal N  μ  post) : Ci l D k y_Model_leastTotal b_Model_leastTotal 1 .int rm_Model_leastTotal [.ref (g 0)] (wModel k g μ) (fun u : (St) => wModel k g u) post := by
  refine Ci.of (by decide) (Nat.le_of_ble_eq_true rfl) ?_
  intro p e s m below meth c A H locs ls C hP hD hS hl
  obtain ⟨hx, hb, hr, hlk, hml, hown, hts, hK, hA⟩ := id C
  replace hl : lv_has ls 1 [(0, .ref (g 0))] := hl
  unfold wp_Model_leastTotal at h
  refine lv_aload_n hx hb d_Model_leastTotal_0 rfl (lv_at hl 0 rfl) ?_
  refine same_v C hP hD hS (runV (As := []) (rest := []) C hP hD (m_Model_reckonAll N g μ   _ h H.size) kw_1049 kw_1051 kp_32 kw_12 kw_1052 hd_Model_reckonAll ⟨Nat.le_of_ble_eq_true rfl, Nat.le_of_ble_eq_true rfl⟩ ⟨Nat.le_of_ble_eq_true rfl, Nat.le_of_ble_eq_true rfl⟩ 0 rfl rfl rfl rfl hl.1 (Nat.le_of_ble_eq_true rfl) d_Model_leastTotal_1) (fun u1 H locs h hP hD hS => ?_)
  replace hP : va_P D CL (wModel k g u1) H := hP
  replace hD : va_D A (wModel k g u1) := hD
  try dsimp only at h
  refine lv_aload_n hx hb d_Model_leastTotal_4 rfl (lv_at hl 0 rfl) ?_
  refine va_get (D := D) (ci := 8) (v := .ref (g 25)) (C := R_Model) (T := F_Model) (N := 40) hx hb hts in_Model hown hK hP 0 rfl rfl 30 (by decide) (hts _ kw_892) (fun _ h9 => h9) rfl d_Model_leastTotal_5 ?_
  refine lv_aload_n hx hb d_Model_leastTotal_8 rfl (lv_at hl 0 rfl) ?_
  refine va_get (D := D) (ci := 8) (v := .int (u1 29 0)) (C := R_Model) (T := F_Model) (N := 40) hx hb hts in_Model hown hK hP 0 rfl rfl 29 (by decide) (hts _ kw_891) (fun _ h9 => h9) rfl d_Model_leastTotal_9 ?_
  refine lv_iconst (v := 1) hx hb d_Model_leastTotal_12 (by decide) ?_
  refine lv_isub hx hb d_Model_leastTotal_13 ?_
  obtain ⟨hi3, h⟩ := h
  refine va_iald hx hb hK hP 25 0 rfl rfl hi3 d_Model_leastTotal_14 ?_
  refine lv_aload_n hx hb d_Model_leastTotal_15 rfl (lv_at hl 0 rfl) ?_
  refine same_i C hP hD hS (runV (As := []) (rest := [.int (u1 30 (Int32.toNatClampNeg ((u1 29 0) - 1)))]) C hP hD (m_Model_others N g u1   _ h H.size) kw_1085 kw_1087 kp_41 kw_12 kw_1088 hd_Model_others ⟨Nat.le_of_ble_eq_true rfl, Nat.le_of_ble_eq_true rfl⟩ ⟨Nat.le_of_ble_eq_true rfl, Nat.le_of_ble_eq_true rfl⟩ 0 rfl rfl rfl rfl hl.1 (Nat.le_of_ble_eq_true rfl) d_Model_leastTotal_16) (fun r5 u4 H locs h hP hD hS => ?_)
  replace hP : va_P D CL (wModel k g u1) H := hP
  replace hD : va_D A (wModel k g u1) := hD
  try dsimp only at h
  refine lv_iadd hx hb d_Model_leastTotal_19 ?_
  exact ret_i (u := u1) (wf := (fun u : (St) => wModel k g u)) C hP hD hS (Nat.zero_le _) (Nat.zero_le _) h d_Model_leastTotal_20
set_option maxHeartbeats 4000000 in
set_option maxRecDepth 100000 in
theorem t_Model_firstOf_35 {p : Program} {l : Launch} {e : Env} {s : State} {m : MethodId} {args : Array Value} {below : List Frame} {meth : Method} {c : Code} {A : Nat → Prop} {D : va_G} {k : Nat → ClassId} {g : Nat → Nat} (C : Cx p s m args meth c D k "PromotionTillModel" b_Model_firstOf 3 (some .int) A) (N : Nat) (μ : St) (post : Int32 → (Unit) → Prop) :
    ∀ (x2 : Int32) (H : Heap) (locs : List Loc) (ls : Array Slot), va_P D CL (wModel k g μ) H → va_D A (wModel k g μ) → va_S A s.heap H locs → lv_has ls 3 [(2, .int x2)] → wp_Model_firstOf_35 N μ post x2 → W p l e rm_Model_firstOf s m args below meth c H locs 0 0 (MQ below (va_Qi post (fun (u : Unit) t => va_P D CL (wModel k g μ) t.heap ∧ va_D A (wModel k g μ)) A) args s rm_Model_firstOf.cells rm_Model_firstOf.slots A) (F0 m 35 ls []) := by
  obtain ⟨hx, hb, hr, hlk, hml, hown, hts, hK, hA⟩ := id C
  intro x2 H locs ls hP hD hS hl h
  unfold wp_Model_firstOf_35 at h
  refine lv_iload_n hx hb d_Model_firstOf_35 rfl (lv_at hl 0 rfl) ?_
  exact ret_i (u := ()) (wf := (fun u : Unit => wModel k g μ)) C hP hD hS (Nat.zero_le _) (Nat.zero_le _) h d_Model_firstOf_36
set_option maxHeartbeats 4000000 in
set_option maxRecDepth 100000 in
theorem t_Model_firstOf_29 {p : Program} {l : Launch} {e : Env} {s : State} {m : MethodId} {args : Array Value} {below : List Frame} {meth : Method} {c : Code} {A : Nat → Prop} {D : va_G} {k : Nat → ClassId} {g : Nat → Nat} (C : Cx p s m args meth c D k "PromotionTillModel" b_Model_firstOf 3 (some .int) A) (N : Nat) (μ : St) (post : Int32 → (Unit) → Prop) (K_2 : Int32 → Int32 → Prop) (hK_2 : ∀ (x1 : Int32) (x2 : Int32) (H : Heap) (locs : List Loc) (ls : Array Slot), va_P D CL (wModel k g μ) H → va_D A (wModel k g μ) → va_S A s.heap H locs → lv_has ls 3 [(0, .ref (g 0)), (1, .int x1), (2, .int x2)] → K_2 x1 x2 → W p l e rm_Model_firstOf s m args below meth c H locs 0 0 (MQ below (va_Qi post (fun (u : Unit) t => va_P D CL (wModel k g μ) t.heap ∧ va_D A (wModel k g μ)) A) args s rm_Model_firstOf.cells rm_Model_firstOf.slots A) (F0 m 2 ls [])) :
    ∀ (x1 : Int32) (x2 : Int32) (H : Heap) (locs : List Loc) (ls : Array Slot), va_P D CL (wModel k g μ) H → va_D A (wModel k g μ) → va_S A s.heap H locs → lv_has ls 3 [(0, .ref (g 0)), (1, .int x1), (2, .int x2)] → wp_Model_firstOf_29 N μ post K_2 x1 x2 → W p l e rm_Model_firstOf s m args below meth c H locs 0 0 (MQ below (va_Qi post (fun (u : Unit) t => va_P D CL (wModel k g μ) t.heap ∧ va_D A (wModel k g μ)) A) args s rm_Model_firstOf.cells rm_Model_firstOf.slots A) (F0 m 29 ls []) := by
  obtain ⟨hx, hb, hr, hlk, hml, hown, hts, hK, hA⟩ := id C
  intro x1 x2 H locs ls hP hD hS hl h
  unfold wp_Model_firstOf_29 at h
  refine lv_iinc (v := x2 + 1) (lv' := [(2, .int (x2 + 1)), (0, .ref (g 0)), (1, .int x1)]) hx hb d_Model_firstOf_29 hl (k := 2) rfl rfl (by decide) rfl (fun ls hl => ?_)
  refine lv_goto (tgt := 2) hx hb d_Model_firstOf_32 (by decide) ?_
  exact hK_2 x1 (x2 + 1) _ _ _ hP hD hS (lv_sub hl [1, 2, 0] rfl) h
set_option maxHeartbeats 4000000 in
set_option maxRecDepth 100000 in
theorem t_Model_firstOf_2 {p : Program} {l : Launch} {e : Env} {s : State} {m : MethodId} {args : Array Value} {below : List Frame} {meth : Method} {c : Code} {A : Nat → Prop} {D : va_G} {k : Nat → ClassId} {g : Nat → Nat} (C : Cx p s m args meth c D k "PromotionTillModel" b_Model_firstOf 3 (some .int) A) (N : Nat) (μ : St) (post : Int32 → (Unit) → Prop) :
    ∀ (n : Nat) (x1 : Int32) (x2 : Int32) (H : Heap) (locs : List Loc) (ls : Array Slot), va_P D CL (wModel k g μ) H → va_D A (wModel k g μ) → va_S A s.heap H locs → lv_has ls 3 [(0, .ref (g 0)), (1, .int x1), (2, .int x2)] → wp_Model_firstOf_2 N μ post n x1 x2 → W p l e rm_Model_firstOf s m args below meth c H locs 0 0 (MQ below (va_Qi post (fun (u : Unit) t => va_P D CL (wModel k g μ) t.heap ∧ va_D A (wModel k g μ)) A) args s rm_Model_firstOf.cells rm_Model_firstOf.slots A) (F0 m 2 ls []) := by
  obtain ⟨hx, hb, hr, hlk, hml, hown, hts, hK, hA⟩ := id C
  intro n
  induction n with
  | zero =>
    intro x1 x2 H locs ls hP hD hS hl h
    exact absurd h (by simp [wp_Model_firstOf_2])
  | succ n ih =>
    intro x1 x2 H locs ls hP hD hS hl h
    rw [wp_Model_firstOf_2] at h
    refine lv_iload_n hx hb d_Model_firstOf_2 rfl (lv_at hl 2 rfl) ?_
    refine lv_aload_n hx hb d_Model_firstOf_3 rfl (lv_at hl 0 rfl) ?_
    refine va_get (D := D) (ci := 8) (v := .int (μ 22 0)) (C := R_Model) (T := F_Model) (N := 40) hx hb hts in_Model hown hK hP 0 rfl rfl 22 (by decide) (hts _ kw_884) (fun _ h9 => h9) rfl d_Model_firstOf_4 ?_
    refine lv_icmp_ge (tgt := 35) hx hb d_Model_firstOf_7 (by decide) (fun c1 => ?_) (fun c1 => ?_)
    · replace h := h.1 c1
      exact t_Model_firstOf_35 C N μ post x2 _ _ _ hP hD hS (lv_sub hl [2] rfl) h
    · replace h := h.2 c1
      refine lv_aload_n hx hb d_Model_firstOf_10 rfl (lv_at hl 0 rfl) ?_
      refine va_get (D := D) (ci := 8) (v := .ref (g 30)) (C := R_Model) (T := F_Model) (N := 40) hx hb hts in_Model hown hK hP 0 rfl rfl 37 (by decide) (hts _ kw_899) (fun _ h9 => h9) rfl d_Model_firstOf_11 ?_
      refine lv_iload_n hx hb d_Model_firstOf_14 rfl (lv_at hl 2 rfl) ?_
      obtain ⟨hi2, h⟩ := h
      refine va_zald hx hb hK hP 30 1 rfl rfl hi2 d_Model_firstOf_15 ?_
      refine lv_if_ne (tgt := 29) hx hb d_Model_firstOf_16 (by decide) (fun c3 => ?_) (fun c3 => ?_)
      · replace h := h.1 c3
        exact t_Model_firstOf_29 C N μ post (wp_Model_firstOf_2 N μ post n) ih x1 x2 _ _ _ hP hD hS (lv_sub hl [0, 1, 2] rfl) h
      · replace h := h.2 c3
        refine lv_aload_n hx hb d_Model_firstOf_19 rfl (lv_at hl 0 rfl) ?_
        refine va_get (D := D) (ci := 8) (v := .ref (g 18)) (C := R_Model) (T := F_Model) (N := 40) hx hb hts in_Model hown hK hP 0 rfl rfl 20 (by decide) (hts _ kw_882) (fun _ h9 => h9) rfl d_Model_firstOf_20 ?_
        refine lv_iload_n hx hb d_Model_firstOf_23 rfl (lv_at hl 2 rfl) ?_
        obtain ⟨hi4, h⟩ := h
        refine va_iald hx hb hK hP 18 0 rfl rfl hi4 d_Model_firstOf_24 ?_
        refine lv_iload_n hx hb d_Model_firstOf_25 rfl (lv_at hl 1 rfl) ?_
        refine lv_icmp_eq (tgt := 35) hx hb d_Model_firstOf_26 (by decide) (fun c5 => ?_) (fun c5 => ?_)
        · replace h := h.1 c5
          exact t_Model_firstOf_35 C N μ post x2 _ _ _ hP hD hS (lv_sub hl [2] rfl) h
        · replace h := h.2 c5
          exact t_Model_firstOf_29 C N μ post (wp_Model_firstOf_2 N μ post n) ih x1 x2 _ _ _ hP hD hS (lv_sub hl [0, 1, 2] rfl) h
set_option maxHeartbeats 4000000 in
set_option maxRecDepth 100000 in
theorem m_Model_firstOf {l : Launch} {D : va_G} {k : Nat → ClassId} (N : Nat) (g : Nat → Nat) (μ : St) (x1 : Int32) (post : Int32 → (Unit) → Prop) (h : wp_Model_firstOf N  μ x1 post) : Ci l D k y_Model_firstOf b_Model_firstOf 3 .int rm_Model_firstOf [.ref (g 0), .int x1] (wModel k g μ) (fun u : Unit => wModel k g μ) post := by
  refine Ci.of (by decide) (Nat.le_of_ble_eq_true rfl) ?_
  intro p e s m below meth c A H locs ls C hP hD hS hl
  obtain ⟨hx, hb, hr, hlk, hml, hown, hts, hK, hA⟩ := id C
  replace hl : lv_has ls 3 [(0, .ref (g 0)), (1, .int x1)] := hl
  unfold wp_Model_firstOf at h
  refine lv_iconst (v := 0) hx hb d_Model_firstOf_0 (by decide) ?_
  refine lv_istore_n (lv' := [(2, .int 0), (0, .ref (g 0)), (1, .int x1)]) hx hb d_Model_firstOf_1 rfl hl (by decide) rfl (fun ls hl => ?_)
  exact t_Model_firstOf_2 C N μ post   N x1 0 _ _ _ hP hD hS (lv_sub hl [1, 2, 0] rfl) h
set_option maxHeartbeats 4000000 in
set_option maxRecDepth 100000 in
theorem t_Model_listHas_2 {p : Program} {l : Launch} {e : Env} {s : State} {m : MethodId} {args : Array Value} {below : List Frame} {meth : Method} {c : Code} {A : Nat → Prop} {D : va_G} {k : Nat → ClassId} {g : Nat → Nat} (C : Cx p s m args meth c D k "PromotionTillModel" b_Model_listHas 3 (some .boolean) A) (N : Nat) (μ : St) (post : Int32 → (Unit) → Prop) :
    ∀ (n : Nat) (x1 : Int32) (x2 : Int32) (H : Heap) (locs : List Loc) (ls : Array Slot), va_P D CL (wModel k g μ) H → va_D A (wModel k g μ) → va_S A s.heap H locs → lv_has ls 3 [(0, .ref (g 0)), (1, .int x1), (2, .int x2)] → wp_Model_listHas_2 N μ post n x1 x2 → W p l e rm_Model_listHas s m args below meth c H locs 0 0 (MQ below (va_Qi post (fun (u : Unit) t => va_P D CL (wModel k g μ) t.heap ∧ va_D A (wModel k g μ)) A) args s rm_Model_listHas.cells rm_Model_listHas.slots A) (F0 m 2 ls []) := by
  obtain ⟨hx, hb, hr, hlk, hml, hown, hts, hK, hA⟩ := id C
  intro n
  induction n with
  | zero =>
    intro x1 x2 H locs ls hP hD hS hl h
    exact absurd h (by simp [wp_Model_listHas_2])
  | succ n ih =>
    intro x1 x2 H locs ls hP hD hS hl h
    rw [wp_Model_listHas_2] at h
    refine lv_iload_n hx hb d_Model_listHas_2 rfl (lv_at hl 2 rfl) ?_
    refine lv_aload_n hx hb d_Model_listHas_3 rfl (lv_at hl 0 rfl) ?_
    refine va_get (D := D) (ci := 8) (v := .int (μ 33 0)) (C := R_Model) (T := F_Model) (N := 40) hx hb hts in_Model hown hK hP 0 rfl rfl 33 (by decide) (hts _ kw_895) (fun _ h9 => h9) rfl d_Model_listHas_4 ?_
    refine lv_icmp_ge (tgt := 28) hx hb d_Model_listHas_7 (by decide) (fun c1 => ?_) (fun c1 => ?_)
    · replace h := h.1 c1
      refine lv_iconst (v := 0) hx hb d_Model_listHas_28 (by decide) ?_
      exact ret_z (u := ()) (wf := (fun u : Unit => wModel k g μ)) C rfl hP hD hS (Nat.zero_le _) (Nat.zero_le _) h d_Model_listHas_29
    · replace h := h.2 c1
      refine lv_aload_n hx hb d_Model_listHas_10 rfl (lv_at hl 0 rfl) ?_
      refine va_get (D := D) (ci := 8) (v := .ref (g 26)) (C := R_Model) (T := F_Model) (N := 40) hx hb hts in_Model hown hK hP 0 rfl rfl 31 (by decide) (hts _ kw_893) (fun _ h9 => h9) rfl d_Model_listHas_11 ?_
      refine lv_iload_n hx hb d_Model_listHas_14 rfl (lv_at hl 2 rfl) ?_
      obtain ⟨hi2, h⟩ := h
      refine va_iald hx hb hK hP 26 0 rfl rfl hi2 d_Model_listHas_15 ?_
      refine lv_iload_n hx hb d_Model_listHas_16 rfl (lv_at hl 1 rfl) ?_
      refine lv_icmp_ne (tgt := 22) hx hb d_Model_listHas_17 (by decide) (fun c3 => ?_) (fun c3 => ?_)
      · replace h := h.1 c3
        refine lv_iinc (v := x2 + 1) (lv' := [(2, .int (x2 + 1)), (0, .ref (g 0)), (1, .int x1)]) hx hb d_Model_listHas_22 hl (k := 2) rfl rfl (by decide) rfl (fun ls hl => ?_)
        refine lv_goto (tgt := 2) hx hb d_Model_listHas_25 (by decide) ?_
        exact ih x1 (x2 + 1) _ _ _ hP hD hS (lv_sub hl [1, 2, 0] rfl) h
      · replace h := h.2 c3
        refine lv_iconst (v := 1) hx hb d_Model_listHas_20 (by decide) ?_
        exact ret_z (u := ()) (wf := (fun u : Unit => wModel k g μ)) C rfl hP hD hS (Nat.zero_le _) (Nat.zero_le _) h d_Model_listHas_21
set_option maxHeartbeats 4000000 in
set_option maxRecDepth 100000 in
theorem m_Model_listHas {l : Launch} {D : va_G} {k : Nat → ClassId} (N : Nat) (g : Nat → Nat) (μ : St) (x1 : Int32) (post : Int32 → (Unit) → Prop) (h : wp_Model_listHas N  μ x1 post) : Ci l D k y_Model_listHas b_Model_listHas 3 .boolean rm_Model_listHas [.ref (g 0), .int x1] (wModel k g μ) (fun u : Unit => wModel k g μ) post := by
  refine Ci.of (by decide) (Nat.le_of_ble_eq_true rfl) ?_
  intro p e s m below meth c A H locs ls C hP hD hS hl
  obtain ⟨hx, hb, hr, hlk, hml, hown, hts, hK, hA⟩ := id C
  replace hl : lv_has ls 3 [(0, .ref (g 0)), (1, .int x1)] := hl
  unfold wp_Model_listHas at h
  refine lv_iconst (v := 0) hx hb d_Model_listHas_0 (by decide) ?_
  refine lv_istore_n (lv' := [(2, .int 0), (0, .ref (g 0)), (1, .int x1)]) hx hb d_Model_listHas_1 rfl hl (by decide) rfl (fun ls hl => ?_)
  exact t_Model_listHas_2 C N μ post   N x1 0 _ _ _ hP hD hS (lv_sub hl [1, 2, 0] rfl) h
set_option maxHeartbeats 4000000 in
set_option maxRecDepth 100000 in
theorem t_Model_spread_210 {p : Program} {l : Launch} {e : Env} {s : State} {m : MethodId} {args : Array Value} {below : List Frame} {meth : Method} {c : Code} {A : Nat → Prop} {D : va_G} {k : Nat → ClassId} {g : Nat → Nat} (C : Cx p s m args meth c D k "PromotionTillModel" b_Model_spread 9 none A) (N : Nat) (post : ((St)) → Prop) (K_101 : Int32 → Int32 → Int32 → Int32 → Int32 → Int32 → (St) → Prop) (hK_101 : ∀ (x2 : Int32) (x3 : Int32) (x4 : Int32) (x5 : Int32) (x6 : Int32) (x7 : Int32) (μ : (St)) (H : Heap) (locs : List Loc) (ls : Array Slot), va_P D CL (wModel k g μ) H → va_D A (wModel k g μ) → va_S A s.heap H locs → lv_has ls 9 [(0, .ref (g 0)), (2, .int x2), (3, .int x3), (4, .int x4), (5, .int x5), (6, .int x6), (7, .int x7)] → K_101 x2 x3 x4 x5 x6 x7 μ → W p l e rm_Model_spread s m args below meth c H locs 0 0 (MQ below (va_Qv post (fun (u : (St)) t => va_P D CL (wModel k g u) t.heap ∧ va_D A (wModel k g u)) A) args s rm_Model_spread.cells rm_Model_spread.slots A) (F0 m 101 ls [])) :
    ∀ (x2 : Int32) (x3 : Int32) (x4 : Int32) (x5 : Int32) (x6 : Int32) (x7 : Int32) (μ : (St)) (H : Heap) (locs : List Loc) (ls : Array Slot), va_P D CL (wModel k g μ) H → va_D A (wModel k g μ) → va_S A s.heap H locs → lv_has ls 9 [(0, .ref (g 0)), (2, .int x2), (3, .int x3), (4, .int x4), (5, .int x5), (6, .int x6), (7, .int x7)] → wp_Model_spread_210 N post K_101 x2 x3 x4 x5 x6 x7 μ → W p l e rm_Model_spread s m args below meth c H locs 0 0 (MQ below (va_Qv post (fun (u : (St)) t => va_P D CL (wModel k g u) t.heap ∧ va_D A (wModel k g u)) A) args s rm_Model_spread.cells rm_Model_spread.slots A) (F0 m 210 ls []) := by
  obtain ⟨hx, hb, hr, hlk, hml, hown, hts, hK, hA⟩ := id C
  intro x2 x3 x4 x5 x6 x7 μ H locs ls hP hD hS hl h
  unfold wp_Model_spread_210 at h
  refine lv_iinc (v := x7 + 1) (lv' := [(7, .int (x7 + 1)), (0, .ref (g 0)), (2, .int x2), (3, .int x3), (4, .int x4), (5, .int x5), (6, .int x6)]) hx hb d_Model_spread_210 hl (k := 6) rfl rfl (by decide) rfl (fun ls hl => ?_)
  refine lv_goto (tgt := 101) hx hb d_Model_spread_213 (by decide) ?_
  exact hK_101 x2 x3 x4 x5 x6 (x7 + 1) μ _ _ _ hP hD hS (lv_sub hl [1, 2, 3, 4, 5, 6, 0] rfl) h
set_option maxHeartbeats 4000000 in
set_option maxRecDepth 100000 in
theorem t_Model_spread_206 {p : Program} {l : Launch} {e : Env} {s : State} {m : MethodId} {args : Array Value} {below : List Frame} {meth : Method} {c : Code} {A : Nat → Prop} {D : va_G} {k : Nat → ClassId} {g : Nat → Nat} (C : Cx p s m args meth c D k "PromotionTillModel" b_Model_spread 9 none A) (N : Nat) (post : ((St)) → Prop) (K_210 : Int32 → Int32 → Int32 → Int32 → Int32 → Int32 → (St) → Prop) (hK_210 : ∀ (x2 : Int32) (x3 : Int32) (x4 : Int32) (x5 : Int32) (x6 : Int32) (x7 : Int32) (μ : (St)) (H : Heap) (locs : List Loc) (ls : Array Slot), va_P D CL (wModel k g μ) H → va_D A (wModel k g μ) → va_S A s.heap H locs → lv_has ls 9 [(0, .ref (g 0)), (2, .int x2), (3, .int x3), (4, .int x4), (5, .int x5), (6, .int x6), (7, .int x7)] → K_210 x2 x3 x4 x5 x6 x7 μ → W p l e rm_Model_spread s m args below meth c H locs 0 0 (MQ below (va_Qv post (fun (u : (St)) t => va_P D CL (wModel k g u) t.heap ∧ va_D A (wModel k g u)) A) args s rm_Model_spread.cells rm_Model_spread.slots A) (F0 m 210 ls [])) :
    ∀ (x2 : Int32) (x3 : Int32) (x4 : Int32) (x5 : Int32) (x7 : Int32) (μ : (St)) (H : Heap) (locs : List Loc) (ls : Array Slot), va_P D CL (wModel k g μ) H → va_D A (wModel k g μ) → va_S A s.heap H locs → lv_has ls 9 [(0, .ref (g 0)), (2, .int x2), (3, .int x3), (4, .int x4), (5, .int x5), (7, .int x7)] → wp_Model_spread_206 N post K_210 x2 x3 x4 x5 x7 μ → W p l e rm_Model_spread s m args below meth c H locs 0 0 (MQ below (va_Qv post (fun (u : (St)) t => va_P D CL (wModel k g u) t.heap ∧ va_D A (wModel k g u)) A) args s rm_Model_spread.cells rm_Model_spread.slots A) (F0 m 206 ls []) := by
  obtain ⟨hx, hb, hr, hlk, hml, hown, hts, hK, hA⟩ := id C
  intro x2 x3 x4 x5 x7 μ H locs ls hP hD hS hl h
  unfold wp_Model_spread_206 at h
  refine lv_iload hx hb d_Model_spread_206 (lv_at hl 5 rfl) ?_
  refine lv_istore (lv' := [(6, .int x7), (0, .ref (g 0)), (2, .int x2), (3, .int x3), (4, .int x4), (5, .int x5), (7, .int x7)]) hx hb d_Model_spread_208 hl (by decide) rfl (fun ls hl => ?_)
  exact hK_210 x2 x3 x4 x5 x7 x7 μ _ _ _ hP hD hS (lv_sub hl [1, 2, 3, 4, 5, 0, 6] rfl) h
set_option maxHeartbeats 4000000 in
set_option maxRecDepth 100000 in
theorem t_Model_spread_162 {p : Program} {l : Launch} {e : Env} {s : State} {m : MethodId} {args : Array Value} {below : List Frame} {meth : Method} {c : Code} {A : Nat → Prop} {D : va_G} {k : Nat → ClassId} {g : Nat → Nat} (C : Cx p s m args meth c D k "PromotionTillModel" b_Model_spread 9 none A) (N : Nat) (post : ((St)) → Prop) (K_101 : Int32 → Int32 → Int32 → Int32 → Int32 → Int32 → (St) → Prop) (hK_101 : ∀ (x2 : Int32) (x3 : Int32) (x4 : Int32) (x5 : Int32) (x6 : Int32) (x7 : Int32) (μ : (St)) (H : Heap) (locs : List Loc) (ls : Array Slot), va_P D CL (wModel k g μ) H → va_D A (wModel k g μ) → va_S A s.heap H locs → lv_has ls 9 [(0, .ref (g 0)), (2, .int x2), (3, .int x3), (4, .int x4), (5, .int x5), (6, .int x6), (7, .int x7)] → K_101 x2 x3 x4 x5 x6 x7 μ → W p l e rm_Model_spread s m args below meth c H locs 0 0 (MQ below (va_Qv post (fun (u : (St)) t => va_P D CL (wModel k g u) t.heap ∧ va_D A (wModel k g u)) A) args s rm_Model_spread.cells rm_Model_spread.slots A) (F0 m 101 ls [])) :
    ∀ (x2 : Int32) (x3 : Int32) (x4 : Int32) (x5 : Int32) (x6 : Int32) (x7 : Int32) (y0 : Int32) (μ : (St)) (H : Heap) (locs : List Loc) (ls : Array Slot), va_P D CL (wModel k g μ) H → va_D A (wModel k g μ) → va_S A s.heap H locs → lv_has ls 9 [(0, .ref (g 0)), (2, .int x2), (3, .int x3), (4, .int x4), (5, .int x5), (6, .int x6), (7, .int x7)] → wp_Model_spread_162 N post K_101 x2 x3 x4 x5 x6 x7 y0 μ → W p l e rm_Model_spread s m args below meth c H locs 0 0 (MQ below (va_Qv post (fun (u : (St)) t => va_P D CL (wModel k g u) t.heap ∧ va_D A (wModel k g u)) A) args s rm_Model_spread.cells rm_Model_spread.slots A) (F0 m 162 ls [.int y0]) := by
  obtain ⟨hx, hb, hr, hlk, hml, hown, hts, hK, hA⟩ := id C
  intro x2 x3 x4 x5 x6 x7 y0 μ H locs ls hP hD hS hl h
  unfold wp_Model_spread_162 at h
  refine lv_istore (lv' := [(8, .int y0), (0, .ref (g 0)), (2, .int x2), (3, .int x3), (4, .int x4), (5, .int x5), (6, .int x6), (7, .int x7)]) hx hb d_Model_spread_162 hl (by decide) rfl (fun ls hl => ?_)
  refine lv_iload hx hb d_Model_spread_164 (lv_at hl 0 rfl) ?_
  refine lv_if_eq (tgt := 210) hx hb d_Model_spread_166 (by decide) (fun c23 => ?_) (fun c23 => ?_)
  · replace h := h.1 c23
    exact t_Model_spread_210 C N post (K_101) hK_101 x2 x3 x4 x5 x6 x7 μ _ _ _ hP hD hS (lv_sub hl [1, 2, 3, 4, 5, 6, 7] rfl) h
  · replace h := h.2 c23
    refine lv_iload hx hb d_Model_spread_169 (lv_at hl 6 rfl) ?_
    refine lv_if_lt (tgt := 206) hx hb d_Model_spread_171 (by decide) (fun c24 => ?_) (fun c24 => ?_)
    · replace h := h.1 c24
      exact t_Model_spread_206 C N post (wp_Model_spread_210 N post K_101) (t_Model_spread_210 C N post (K_101) hK_101) x2 x3 x4 x5 x7 μ _ _ _ hP hD hS (lv_sub hl [1, 2, 3, 4, 5, 7] rfl) h
    · replace h := h.2 c24
      refine lv_iload_n hx hb d_Model_spread_174 rfl (lv_at hl 3 rfl) ?_
      refine lv_i2l hx hb d_Model_spread_175 rfl ?_
      refine lv_aload_n hx hb d_Model_spread_176 rfl (lv_at hl 1 rfl) ?_
      refine va_get (D := D) (ci := 8) (v := .ref (g 19)) (C := R_Model) (T := F_Model) (N := 40) hx hb hts in_Model hown hK hP 0 rfl rfl 21 (by decide) (hts _ kw_883) (fun _ h9 => h9) rfl d_Model_spread_177 ?_
      refine lv_iload hx hb d_Model_spread_180 (lv_at hl 7 rfl) ?_
      obtain ⟨hi25, h⟩ := h
      refine va_iald hx hb hK hP 19 0 rfl rfl hi25 d_Model_spread_182 ?_
      refine lv_i2l hx hb d_Model_spread_183 rfl ?_
      refine lv_lmul hx hb d_Model_spread_184 ?_
      refine lv_iload_n hx hb d_Model_spread_185 rfl (lv_at hl 2 rfl) ?_
      refine lv_i2l hx hb d_Model_spread_186 rfl ?_
      obtain ⟨hz26, h⟩ := h
      refine lv_lrem hx hb d_Model_spread_187 hz26 ?_
      refine lv_iload_n hx hb d_Model_spread_188 rfl (lv_at hl 3 rfl) ?_
      refine lv_i2l hx hb d_Model_spread_189 rfl ?_
      refine lv_aload_n hx hb d_Model_spread_190 rfl (lv_at hl 1 rfl) ?_
      refine va_get (D := D) (ci := 8) (v := .ref (g 19)) (C := R_Model) (T := F_Model) (N := 40) hx hb hts in_Model hown hK hP 0 rfl rfl 21 (by decide) (hts _ kw_883) (fun _ h9 => h9) rfl d_Model_spread_191 ?_
      refine lv_iload hx hb d_Model_spread_194 (lv_at hl 6 rfl) ?_
      obtain ⟨hi27, h⟩ := h
      refine va_iald hx hb hK hP 19 0 rfl rfl hi27 d_Model_spread_196 ?_
      refine lv_i2l hx hb d_Model_spread_197 rfl ?_
      refine lv_lmul hx hb d_Model_spread_198 ?_
      refine lv_iload_n hx hb d_Model_spread_199 rfl (lv_at hl 2 rfl) ?_
      refine lv_i2l hx hb d_Model_spread_200 rfl ?_
      obtain ⟨hz28, h⟩ := h
      refine lv_lrem hx hb d_Model_spread_201 hz28 ?_
      refine W.lcmp hx hb d_Model_spread_202 ?_
      refine lv_if_le (tgt := 210) hx hb d_Model_spread_203 (by decide) (fun c29 => ?_) (fun c29 => ?_)
      · replace h := h.1 c29
        exact t_Model_spread_210 C N post (K_101) hK_101 x2 x3 x4 x5 x6 x7 μ _ _ _ hP hD hS (lv_sub hl [1, 2, 3, 4, 5, 6, 7] rfl) h
      · replace h := h.2 c29
        exact t_Model_spread_206 C N post (wp_Model_spread_210 N post K_101) (t_Model_spread_210 C N post (K_101) hK_101) x2 x3 x4 x5 x7 μ _ _ _ hP hD hS (lv_sub hl [1, 2, 3, 4, 5, 7] rfl) h
set_option maxHeartbeats 4000000 in
set_option maxRecDepth 100000 in
theorem t_Model_spread_161 {p : Program} {l : Launch} {e : Env} {s : State} {m : MethodId} {args : Array Value} {below : List Frame} {meth : Method} {c : Code} {A : Nat → Prop} {D : va_G} {k : Nat → ClassId} {g : Nat → Nat} (C : Cx p s m args meth c D k "PromotionTillModel" b_Model_spread 9 none A) (N : Nat) (post : ((St)) → Prop) (K_162 : Int32 → Int32 → Int32 → Int32 → Int32 → Int32 → Int32 → (St) → Prop) (hK_162 : ∀ (x2 : Int32) (x3 : Int32) (x4 : Int32) (x5 : Int32) (x6 : Int32) (x7 : Int32) (y0 : Int32) (μ : (St)) (H : Heap) (locs : List Loc) (ls : Array Slot), va_P D CL (wModel k g μ) H → va_D A (wModel k g μ) → va_S A s.heap H locs → lv_has ls 9 [(0, .ref (g 0)), (2, .int x2), (3, .int x3), (4, .int x4), (5, .int x5), (6, .int x6), (7, .int x7)] → K_162 x2 x3 x4 x5 x6 x7 y0 μ → W p l e rm_Model_spread s m args below meth c H locs 0 0 (MQ below (va_Qv post (fun (u : (St)) t => va_P D CL (wModel k g u) t.heap ∧ va_D A (wModel k g u)) A) args s rm_Model_spread.cells rm_Model_spread.slots A) (F0 m 162 ls [.int y0])) :
    ∀ (x2 : Int32) (x3 : Int32) (x4 : Int32) (x5 : Int32) (x6 : Int32) (x7 : Int32) (μ : (St)) (H : Heap) (locs : List Loc) (ls : Array Slot), va_P D CL (wModel k g μ) H → va_D A (wModel k g μ) → va_S A s.heap H locs → lv_has ls 9 [(0, .ref (g 0)), (2, .int x2), (3, .int x3), (4, .int x4), (5, .int x5), (6, .int x6), (7, .int x7)] → wp_Model_spread_161 N post K_162 x2 x3 x4 x5 x6 x7 μ → W p l e rm_Model_spread s m args below meth c H locs 0 0 (MQ below (va_Qv post (fun (u : (St)) t => va_P D CL (wModel k g u) t.heap ∧ va_D A (wModel k g u)) A) args s rm_Model_spread.cells rm_Model_spread.slots A) (F0 m 161 ls []) := by
  obtain ⟨hx, hb, hr, hlk, hml, hown, hts, hK, hA⟩ := id C
  intro x2 x3 x4 x5 x6 x7 μ H locs ls hP hD hS hl h
  unfold wp_Model_spread_161 at h
  refine lv_iconst (v := 0) hx hb d_Model_spread_161 (by decide) ?_
  exact hK_162 x2 x3 x4 x5 x6 x7 0 μ _ _ _ hP hD hS (lv_sub hl [0, 1, 2, 3, 4, 5, 6] rfl) h
set_option maxHeartbeats 4000000 in
set_option maxRecDepth 100000 in
theorem t_Model_spread_101 {p : Program} {l : Launch} {e : Env} {s : State} {m : MethodId} {args : Array Value} {below : List Frame} {meth : Method} {c : Code} {A : Nat → Prop} {D : va_G} {k : Nat → ClassId} {g : Nat → Nat} (C : Cx p s m args meth c D k "PromotionTillModel" b_Model_spread 9 none A) (N : Nat) (post : ((St)) → Prop) (K_88 : Int32 → Int32 → Int32 → Int32 → (St) → Prop) (hK_88 : ∀ (x2 : Int32) (x3 : Int32) (x4 : Int32) (x5 : Int32) (μ : (St)) (H : Heap) (locs : List Loc) (ls : Array Slot), va_P D CL (wModel k g μ) H → va_D A (wModel k g μ) → va_S A s.heap H locs → lv_has ls 9 [(0, .ref (g 0)), (2, .int x2), (3, .int x3), (4, .int x4), (5, .int x5)] → K_88 x2 x3 x4 x5 μ → W p l e rm_Model_spread s m args below meth c H locs 0 0 (MQ below (va_Qv post (fun (u : (St)) t => va_P D CL (wModel k g u) t.heap ∧ va_D A (wModel k g u)) A) args s rm_Model_spread.cells rm_Model_spread.slots A) (F0 m 88 ls [])) :
    ∀ (n : Nat) (x2 : Int32) (x3 : Int32) (x4 : Int32) (x5 : Int32) (x6 : Int32) (x7 : Int32) (μ : (St)) (H : Heap) (locs : List Loc) (ls : Array Slot), va_P D CL (wModel k g μ) H → va_D A (wModel k g μ) → va_S A s.heap H locs → lv_has ls 9 [(0, .ref (g 0)), (2, .int x2), (3, .int x3), (4, .int x4), (5, .int x5), (6, .int x6), (7, .int x7)] → wp_Model_spread_101 N post K_88 n x2 x3 x4 x5 x6 x7 μ → W p l e rm_Model_spread s m args below meth c H locs 0 0 (MQ below (va_Qv post (fun (u : (St)) t => va_P D CL (wModel k g u) t.heap ∧ va_D A (wModel k g u)) A) args s rm_Model_spread.cells rm_Model_spread.slots A) (F0 m 101 ls []) := by
  obtain ⟨hx, hb, hr, hlk, hml, hown, hts, hK, hA⟩ := id C
  intro n
  induction n with
  | zero =>
    intro x2 x3 x4 x5 x6 x7 μ H locs ls hP hD hS hl h
    exact absurd h (by simp [wp_Model_spread_101])
  | succ n ih =>
    intro x2 x3 x4 x5 x6 x7 μ H locs ls hP hD hS hl h
    rw [wp_Model_spread_101] at h
    refine lv_iload hx hb d_Model_spread_101 (lv_at hl 6 rfl) ?_
    refine lv_aload_n hx hb d_Model_spread_103 rfl (lv_at hl 0 rfl) ?_
    refine va_get (D := D) (ci := 8) (v := .int (μ 22 0)) (C := R_Model) (T := F_Model) (N := 40) hx hb hts in_Model hown hK hP 0 rfl rfl 22 (by decide) (hts _ kw_884) (fun _ h9 => h9) rfl d_Model_spread_104 ?_
    refine lv_icmp_ge (tgt := 216) hx hb d_Model_spread_107 (by decide) (fun c12 => ?_) (fun c12 => ?_)
    · replace h := h.1 c12
      refine lv_aload_n hx hb d_Model_spread_216 rfl (lv_at hl 0 rfl) ?_
      refine va_get (D := D) (ci := 8) (v := .ref (g 29)) (C := R_Model) (T := F_Model) (N := 40) hx hb hts in_Model hown hK hP 0 rfl rfl 36 (by decide) (hts _ kw_898) (fun _ h9 => h9) rfl d_Model_spread_217 ?_
      refine lv_iload hx hb d_Model_spread_220 (lv_at hl 5 rfl) ?_
      refine lv_dup2_11 hx hb d_Model_spread_222 rfl rfl ?_
      obtain ⟨hi13, h⟩ := h
      refine va_iald hx hb hK hP 29 0 rfl rfl hi13 d_Model_spread_223 ?_
      refine lv_iconst (v := 1) hx hb d_Model_spread_224 (by decide) ?_
      refine lv_isub hx hb d_Model_spread_225 ?_
      obtain ⟨hi14, h⟩ := h
      refine va_iast hx hb hK hP hD hS 29 0 rfl rfl hi14 d_Model_spread_226 (fun H locs hP hD hS => ?_)
      obtain ⟨μ15, eμ15⟩ : ∃ z, z = s2 μ 36 (Int32.toNatClampNeg x6) ((μ 36 (Int32.toNatClampNeg x6)) - 1) := ⟨_, rfl⟩
      replace hP : va_P D CL (wModel k g μ15) H := by rw [eμ15]; exact hP
      replace hD : va_D A (wModel k g μ15) := by rw [eμ15]; exact hD
      replace h := h μ15 eμ15
      refine lv_iinc (v := x5 + 1) (lv' := [(5, .int (x5 + 1)), (0, .ref (g 0)), (2, .int x2), (3, .int x3), (4, .int x4), (6, .int x6), (7, .int x7)]) hx hb d_Model_spread_227 hl (k := 4) rfl rfl (by decide) rfl (fun ls hl => ?_)
      refine lv_goto (tgt := 88) hx hb d_Model_spread_230 (by decide) ?_
      exact hK_88 x2 x3 x4 (x5 + 1) μ15 _ _ _ hP hD hS (lv_sub hl [1, 2, 3, 4, 0] rfl) h
    · replace h := h.2 c12
      refine lv_aload_n hx hb d_Model_spread_110 rfl (lv_at hl 0 rfl) ?_
      refine va_get (D := D) (ci := 8) (v := .ref (g 28)) (C := R_Model) (T := F_Model) (N := 40) hx hb hts in_Model hown hK hP 0 rfl rfl 35 (by decide) (hts _ kw_897) (fun _ h9 => h9) rfl d_Model_spread_111 ?_
      refine lv_iload hx hb d_Model_spread_114 (lv_at hl 6 rfl) ?_
      obtain ⟨hi16, h⟩ := h
      refine va_iald hx hb hK hP 28 0 rfl rfl hi16 d_Model_spread_116 ?_
      refine lv_aload_n hx hb d_Model_spread_117 rfl (lv_at hl 0 rfl) ?_
      refine va_get (D := D) (ci := 8) (v := .int (μ 38 0)) (C := R_Model) (T := F_Model) (N := 40) hx hb hts in_Model hown hK hP 0 rfl rfl 38 (by decide) (hts _ kw_900) (fun _ h9 => h9) rfl d_Model_spread_118 ?_
      refine lv_icmp_ne (tgt := 161) hx hb d_Model_spread_121 (by decide) (fun c17 => ?_) (fun c17 => ?_)
      · replace h := h.1 c17
        exact t_Model_spread_161 C N post (wp_Model_spread_162 N post (wp_Model_spread_101 N post K_88 n)) (t_Model_spread_162 C N post (wp_Model_spread_101 N post K_88 n) ih) x2 x3 x4 x5 x6 x7 μ _ _ _ hP hD hS (lv_sub hl [0, 1, 2, 3, 4, 5, 6] rfl) h
      · replace h := h.2 c17
        refine lv_aload_n hx hb d_Model_spread_124 rfl (lv_at hl 0 rfl) ?_
        refine va_get (D := D) (ci := 8) (v := .ref (g 19)) (C := R_Model) (T := F_Model) (N := 40) hx hb hts in_Model hown hK hP 0 rfl rfl 21 (by decide) (hts _ kw_883) (fun _ h9 => h9) rfl d_Model_spread_125 ?_
        refine lv_iload hx hb d_Model_spread_128 (lv_at hl 6 rfl) ?_
        obtain ⟨hi18, h⟩ := h
        refine va_iald hx hb hK hP 19 0 rfl rfl hi18 d_Model_spread_130 ?_
        refine lv_aload_n hx hb d_Model_spread_131 rfl (lv_at hl 0 rfl) ?_
        refine va_get (D := D) (ci := 8) (v := .ref (g 29)) (C := R_Model) (T := F_Model) (N := 40) hx hb hts in_Model hown hK hP 0 rfl rfl 36 (by decide) (hts _ kw_898) (fun _ h9 => h9) rfl d_Model_spread_132 ?_
        refine lv_iload hx hb d_Model_spread_135 (lv_at hl 6 rfl) ?_
        obtain ⟨hi19, h⟩ := h
        refine va_iald hx hb hK hP 29 0 rfl rfl hi19 d_Model_spread_137 ?_
        refine lv_isub hx hb d_Model_spread_138 ?_
        refine lv_iload_n hx hb d_Model_spread_139 rfl (lv_at hl 2 rfl) ?_
        refine lv_i2l hx hb d_Model_spread_140 rfl ?_
        refine lv_aload_n hx hb d_Model_spread_141 rfl (lv_at hl 0 rfl) ?_
        refine va_get (D := D) (ci := 8) (v := .ref (g 19)) (C := R_Model) (T := F_Model) (N := 40) hx hb hts in_Model hown hK hP 0 rfl rfl 21 (by decide) (hts _ kw_883) (fun _ h9 => h9) rfl d_Model_spread_142 ?_
        refine lv_iload hx hb d_Model_spread_145 (lv_at hl 6 rfl) ?_
        obtain ⟨hi20, h⟩ := h
        refine va_iald hx hb hK hP 19 0 rfl rfl hi20 d_Model_spread_147 ?_
        refine lv_i2l hx hb d_Model_spread_148 rfl ?_
        refine lv_lmul hx hb d_Model_spread_149 ?_
        refine lv_iload_n hx hb d_Model_spread_150 rfl (lv_at hl 1 rfl) ?_
        refine lv_i2l hx hb d_Model_spread_151 rfl ?_
        obtain ⟨hz21, h⟩ := h
        refine lv_ldiv hx hb d_Model_spread_152 hz21 ?_
        refine lv_l2i hx hb d_Model_spread_153 rfl ?_
        refine lv_icmp_ne (tgt := 161) hx hb d_Model_spread_154 (by decide) (fun c22 => ?_) (fun c22 => ?_)
        · replace h := h.1 c22
          exact t_Model_spread_161 C N post (wp_Model_spread_162 N post (wp_Model_spread_101 N post K_88 n)) (t_Model_spread_162 C N post (wp_Model_spread_101 N post K_88 n) ih) x2 x3 x4 x5 x6 x7 μ _ _ _ hP hD hS (lv_sub hl [0, 1, 2, 3, 4, 5, 6] rfl) h
        · replace h := h.2 c22
          refine lv_iconst (v := 1) hx hb d_Model_spread_157 (by decide) ?_
          refine lv_goto (tgt := 162) hx hb d_Model_spread_158 (by decide) ?_
          exact t_Model_spread_162 C N post (wp_Model_spread_101 N post K_88 n) ih x2 x3 x4 x5 x6 x7 1 μ _ _ _ hP hD hS (lv_sub hl [0, 1, 2, 3, 4, 5, 6] rfl) h
set_option maxHeartbeats 4000000 in
set_option maxRecDepth 100000 in
theorem t_Model_spread_88 {p : Program} {l : Launch} {e : Env} {s : State} {m : MethodId} {args : Array Value} {below : List Frame} {meth : Method} {c : Code} {A : Nat → Prop} {D : va_G} {k : Nat → ClassId} {g : Nat → Nat} (C : Cx p s m args meth c D k "PromotionTillModel" b_Model_spread 9 none A) (N : Nat) (post : ((St)) → Prop) :
    ∀ (n : Nat) (x2 : Int32) (x3 : Int32) (x4 : Int32) (x5 : Int32) (μ : (St)) (H : Heap) (locs : List Loc) (ls : Array Slot), va_P D CL (wModel k g μ) H → va_D A (wModel k g μ) → va_S A s.heap H locs → lv_has ls 9 [(0, .ref (g 0)), (2, .int x2), (3, .int x3), (4, .int x4), (5, .int x5)] → wp_Model_spread_88 N post n x2 x3 x4 x5 μ → W p l e rm_Model_spread s m args below meth c H locs 0 0 (MQ below (va_Qv post (fun (u : (St)) t => va_P D CL (wModel k g u) t.heap ∧ va_D A (wModel k g u)) A) args s rm_Model_spread.cells rm_Model_spread.slots A) (F0 m 88 ls []) := by
  obtain ⟨hx, hb, hr, hlk, hml, hown, hts, hK, hA⟩ := id C
  intro n
  induction n with
  | zero =>
    intro x2 x3 x4 x5 μ H locs ls hP hD hS hl h
    exact absurd h (by simp [wp_Model_spread_88])
  | succ n ih =>
    intro x2 x3 x4 x5 μ H locs ls hP hD hS hl h
    rw [wp_Model_spread_88] at h
    refine lv_iload hx hb d_Model_spread_88 (lv_at hl 4 rfl) ?_
    refine lv_iload hx hb d_Model_spread_90 (lv_at hl 3 rfl) ?_
    refine lv_icmp_ge (tgt := 233) hx hb d_Model_spread_92 (by decide) (fun c11 => ?_) (fun c11 => ?_)
    · replace h := h.1 c11
      exact ret_v (u := μ) (wf := (fun u : (St) => wModel k g u)) C hP hD hS (Nat.zero_le _) (Nat.zero_le _) h d_Model_spread_233
    · replace h := h.2 c11
      refine lv_iconst (v := (-1)) hx hb d_Model_spread_95 (by decide) ?_
      refine lv_istore (lv' := [(6, .int (-1)), (0, .ref (g 0)), (2, .int x2), (3, .int x3), (4, .int x4), (5, .int x5)]) hx hb d_Model_spread_96 hl (by decide) rfl (fun ls hl => ?_)
      refine lv_iconst (v := 0) hx hb d_Model_spread_98 (by decide) ?_
      refine lv_istore (lv' := [(7, .int 0), (6, .int (-1)), (0, .ref (g 0)), (2, .int x2), (3, .int x3), (4, .int x4), (5, .int x5)]) hx hb d_Model_spread_99 hl (by decide) rfl (fun ls hl => ?_)
      exact t_Model_spread_101 C N post (wp_Model_spread_88 N post n) ih N x2 x3 x4 x5 (-1) 0 μ _ _ _ hP hD hS (lv_sub hl [2, 3, 4, 5, 6, 1, 0] rfl) h
set_option maxHeartbeats 4000000 in
set_option maxRecDepth 100000 in
theorem t_Model_spread_79 {p : Program} {l : Launch} {e : Env} {s : State} {m : MethodId} {args : Array Value} {below : List Frame} {meth : Method} {c : Code} {A : Nat → Prop} {D : va_G} {k : Nat → ClassId} {g : Nat → Nat} (C : Cx p s m args meth c D k "PromotionTillModel" b_Model_spread 9 none A) (N : Nat) (post : ((St)) → Prop) (K_15 : Int32 → Int32 → Int32 → Int32 → (St) → Prop) (hK_15 : ∀ (x2 : Int32) (x3 : Int32) (x4 : Int32) (x5 : Int32) (μ : (St)) (H : Heap) (locs : List Loc) (ls : Array Slot), va_P D CL (wModel k g μ) H → va_D A (wModel k g μ) → va_S A s.heap H locs → lv_has ls 9 [(0, .ref (g 0)), (2, .int x2), (3, .int x3), (4, .int x4), (5, .int x5)] → K_15 x2 x3 x4 x5 μ → W p l e rm_Model_spread s m args below meth c H locs 0 0 (MQ below (va_Qv post (fun (u : (St)) t => va_P D CL (wModel k g u) t.heap ∧ va_D A (wModel k g u)) A) args s rm_Model_spread.cells rm_Model_spread.slots A) (F0 m 15 ls [])) :
    ∀ (x2 : Int32) (x3 : Int32) (x4 : Int32) (x5 : Int32) (μ : (St)) (H : Heap) (locs : List Loc) (ls : Array Slot), va_P D CL (wModel k g μ) H → va_D A (wModel k g μ) → va_S A s.heap H locs → lv_has ls 9 [(0, .ref (g 0)), (2, .int x2), (3, .int x3), (4, .int x4), (5, .int x5)] → wp_Model_spread_79 N post K_15 x2 x3 x4 x5 μ → W p l e rm_Model_spread s m args below meth c H locs 0 0 (MQ below (va_Qv post (fun (u : (St)) t => va_P D CL (wModel k g u) t.heap ∧ va_D A (wModel k g u)) A) args s rm_Model_spread.cells rm_Model_spread.slots A) (F0 m 79 ls []) := by
  obtain ⟨hx, hb, hr, hlk, hml, hown, hts, hK, hA⟩ := id C
  intro x2 x3 x4 x5 μ H locs ls hP hD hS hl h
  unfold wp_Model_spread_79 at h
  refine lv_iinc (v := x5 + 1) (lv' := [(5, .int (x5 + 1)), (0, .ref (g 0)), (2, .int x2), (3, .int x3), (4, .int x4)]) hx hb d_Model_spread_79 hl (k := 4) rfl rfl (by decide) rfl (fun ls hl => ?_)
  refine lv_goto (tgt := 15) hx hb d_Model_spread_82 (by decide) ?_
  exact hK_15 x2 x3 x4 (x5 + 1) μ _ _ _ hP hD hS (lv_sub hl [1, 2, 3, 4, 0] rfl) h
set_option maxHeartbeats 4000000 in
set_option maxRecDepth 100000 in
theorem t_Model_spread_15 {p : Program} {l : Launch} {e : Env} {s : State} {m : MethodId} {args : Array Value} {below : List Frame} {meth : Method} {c : Code} {A : Nat → Prop} {D : va_G} {k : Nat → ClassId} {g : Nat → Nat} (C : Cx p s m args meth c D k "PromotionTillModel" b_Model_spread 9 none A) (N : Nat) (post : ((St)) → Prop) :
    ∀ (n : Nat) (x2 : Int32) (x3 : Int32) (x4 : Int32) (x5 : Int32) (μ : (St)) (H : Heap) (locs : List Loc) (ls : Array Slot), va_P D CL (wModel k g μ) H → va_D A (wModel k g μ) → va_S A s.heap H locs → lv_has ls 9 [(0, .ref (g 0)), (2, .int x2), (3, .int x3), (4, .int x4), (5, .int x5)] → wp_Model_spread_15 N post n x2 x3 x4 x5 μ → W p l e rm_Model_spread s m args below meth c H locs 0 0 (MQ below (va_Qv post (fun (u : (St)) t => va_P D CL (wModel k g u) t.heap ∧ va_D A (wModel k g u)) A) args s rm_Model_spread.cells rm_Model_spread.slots A) (F0 m 15 ls []) := by
  obtain ⟨hx, hb, hr, hlk, hml, hown, hts, hK, hA⟩ := id C
  intro n
  induction n with
  | zero =>
    intro x2 x3 x4 x5 μ H locs ls hP hD hS hl h
    exact absurd h (by simp [wp_Model_spread_15])
  | succ n ih =>
    intro x2 x3 x4 x5 μ H locs ls hP hD hS hl h
    rw [wp_Model_spread_15] at h
    refine lv_iload hx hb d_Model_spread_15 (lv_at hl 4 rfl) ?_
    refine lv_aload_n hx hb d_Model_spread_17 rfl (lv_at hl 0 rfl) ?_
    refine va_get (D := D) (ci := 8) (v := .int (μ 22 0)) (C := R_Model) (T := F_Model) (N := 40) hx hb hts in_Model hown hK hP 0 rfl rfl 22 (by decide) (hts _ kw_884) (fun _ h9 => h9) rfl d_Model_spread_18 ?_
    refine lv_icmp_ge (tgt := 85) hx hb d_Model_spread_21 (by decide) (fun c3 => ?_) (fun c3 => ?_)
    · replace h := h.1 c3
      refine lv_iconst (v := 0) hx hb d_Model_spread_85 (by decide) ?_
      refine lv_istore (lv' := [(5, .int 0), (0, .ref (g 0)), (2, .int x2), (3, .int x3), (4, .int x4)]) hx hb d_Model_spread_86 hl (by decide) rfl (fun ls hl => ?_)
      exact t_Model_spread_88 C N post   N x2 x3 x4 0 μ _ _ _ hP hD hS (lv_sub hl [1, 2, 3, 4, 0] rfl) h
    · replace h := h.2 c3
      refine lv_aload_n hx hb d_Model_spread_24 rfl (lv_at hl 0 rfl) ?_
      refine va_get (D := D) (ci := 8) (v := .ref (g 28)) (C := R_Model) (T := F_Model) (N := 40) hx hb hts in_Model hown hK hP 0 rfl rfl 35 (by decide) (hts _ kw_897) (fun _ h9 => h9) rfl d_Model_spread_25 ?_
      refine lv_iload hx hb d_Model_spread_28 (lv_at hl 4 rfl) ?_
      obtain ⟨hi4, h⟩ := h
      refine va_iald hx hb hK hP 28 0 rfl rfl hi4 d_Model_spread_30 ?_
      refine lv_aload_n hx hb d_Model_spread_31 rfl (lv_at hl 0 rfl) ?_
      refine va_get (D := D) (ci := 8) (v := .int (μ 38 0)) (C := R_Model) (T := F_Model) (N := 40) hx hb hts in_Model hown hK hP 0 rfl rfl 38 (by decide) (hts _ kw_900) (fun _ h9 => h9) rfl d_Model_spread_32 ?_
      refine lv_icmp_ne (tgt := 79) hx hb d_Model_spread_35 (by decide) (fun c5 => ?_) (fun c5 => ?_)
      · replace h := h.1 c5
        exact t_Model_spread_79 C N post (wp_Model_spread_15 N post n) ih x2 x3 x4 x5 μ _ _ _ hP hD hS (lv_sub hl [0, 1, 2, 3, 4] rfl) h
      · replace h := h.2 c5
        refine lv_iload_n hx hb d_Model_spread_38 rfl (lv_at hl 2 rfl) ?_
        refine lv_i2l hx hb d_Model_spread_39 rfl ?_
        refine lv_aload_n hx hb d_Model_spread_40 rfl (lv_at hl 0 rfl) ?_
        refine va_get (D := D) (ci := 8) (v := .ref (g 19)) (C := R_Model) (T := F_Model) (N := 40) hx hb hts in_Model hown hK hP 0 rfl rfl 21 (by decide) (hts _ kw_883) (fun _ h9 => h9) rfl d_Model_spread_41 ?_
        refine lv_iload hx hb d_Model_spread_44 (lv_at hl 4 rfl) ?_
        obtain ⟨hi6, h⟩ := h
        refine va_iald hx hb hK hP 19 0 rfl rfl hi6 d_Model_spread_46 ?_
        refine lv_i2l hx hb d_Model_spread_47 rfl ?_
        refine lv_lmul hx hb d_Model_spread_48 ?_
        refine lv_iload_n hx hb d_Model_spread_49 rfl (lv_at hl 1 rfl) ?_
        refine lv_i2l hx hb d_Model_spread_50 rfl ?_
        obtain ⟨hz7, h⟩ := h
        refine lv_ldiv hx hb d_Model_spread_51 hz7 ?_
        refine lv_l2i hx hb d_Model_spread_52 rfl ?_
        refine lv_istore (lv' := [(6, .int (Int64.toInt32 (((Int32.toInt64 x3) * (Int32.toInt64 (μ 21 (Int32.toNatClampNeg x5)))) / (Int32.toInt64 x2)))), (0, .ref (g 0)), (2, .int x2), (3, .int x3), (4, .int x4), (5, .int x5)]) hx hb d_Model_spread_53 hl (by decide) rfl (fun ls hl => ?_)
        refine lv_aload_n hx hb d_Model_spread_55 rfl (lv_at hl 1 rfl) ?_
        refine va_get (D := D) (ci := 8) (v := .ref (g 29)) (C := R_Model) (T := F_Model) (N := 40) hx hb hts in_Model hown hK hP 0 rfl rfl 36 (by decide) (hts _ kw_898) (fun _ h9 => h9) rfl d_Model_spread_56 ?_
        refine lv_iload hx hb d_Model_spread_59 (lv_at hl 5 rfl) ?_
        refine lv_aload_n hx hb d_Model_spread_61 rfl (lv_at hl 1 rfl) ?_
        refine va_get (D := D) (ci := 8) (v := .ref (g 19)) (C := R_Model) (T := F_Model) (N := 40) hx hb hts in_Model hown hK hP 0 rfl rfl 21 (by decide) (hts _ kw_883) (fun _ h9 => h9) rfl d_Model_spread_62 ?_
        refine lv_iload hx hb d_Model_spread_65 (lv_at hl 5 rfl) ?_
        obtain ⟨hi8, h⟩ := h
        refine va_iald hx hb hK hP 19 0 rfl rfl hi8 d_Model_spread_67 ?_
        refine lv_iload hx hb d_Model_spread_68 (lv_at hl 0 rfl) ?_
        refine lv_isub hx hb d_Model_spread_70 ?_
        obtain ⟨hi9, h⟩ := h
        refine va_iast hx hb hK hP hD hS 29 0 rfl rfl hi9 d_Model_spread_71 (fun H locs hP hD hS => ?_)
        obtain ⟨μ10, eμ10⟩ : ∃ z, z = s2 μ 36 (Int32.toNatClampNeg x5) ((μ 21 (Int32.toNatClampNeg x5)) - (Int64.toInt32 (((Int32.toInt64 x3) * (Int32.toInt64 (μ 21 (Int32.toNatClampNeg x5)))) / (Int32.toInt64 x2)))) := ⟨_, rfl⟩
        replace hP : va_P D CL (wModel k g μ10) H := by rw [eμ10]; exact hP
        replace hD : va_D A (wModel k g μ10) := by rw [eμ10]; exact hD
        replace h := h μ10 eμ10
        refine lv_iload hx hb d_Model_spread_72 (lv_at hl 4 rfl) ?_
        refine lv_iload hx hb d_Model_spread_74 (lv_at hl 0 rfl) ?_
        refine lv_isub hx hb d_Model_spread_76 ?_
        refine lv_istore (lv' := [(4, .int (x4 - (Int64.toInt32 (((Int32.toInt64 x3) * (Int32.toInt64 (μ 21 (Int32.toNatClampNeg x5)))) / (Int32.toInt64 x2))))), (6, .int (Int64.toInt32 (((Int32.toInt64 x3) * (Int32.toInt64 (μ 21 (Int32.toNatClampNeg x5)))) / (Int32.toInt64 x2)))), (0, .ref (g 0)), (2, .int x2), (3, .int x3), (5, .int x5)]) hx hb d_Model_spread_77 hl (by decide) rfl (fun ls hl => ?_)
        exact t_Model_spread_79 C N post (wp_Model_spread_15 N post n) ih x2 x3 (x4 - (Int64.toInt32 (((Int32.toInt64 x3) * (Int32.toInt64 (μ 21 (Int32.toNatClampNeg x5)))) / (Int32.toInt64 x2)))) x5 μ10 _ _ _ hP hD hS (lv_sub hl [2, 3, 4, 0, 5] rfl) h
set_option maxHeartbeats 4000000 in
set_option maxRecDepth 100000 in
theorem m_Model_spread {l : Launch} {D : va_G} {k : Nat → ClassId} (N : Nat) (g : Nat → Nat) (μ : St) (x1 : Int32) (post : ((St)) → Prop) (h : wp_Model_spread N  μ x1 post) : Cv l D k y_Model_spread b_Model_spread 9 rm_Model_spread [.ref (g 0), .int x1] (wModel k g μ) (fun u : (St) => wModel k g u) post := by
  refine Cv.of (by decide) (Nat.le_of_ble_eq_true rfl) ?_
  intro p e s m below meth c A H locs ls C hP hD hS hl
  obtain ⟨hx, hb, hr, hlk, hml, hown, hts, hK, hA⟩ := id C
  replace hl : lv_has ls 9 [(0, .ref (g 0)), (1, .int x1)] := hl
  unfold wp_Model_spread at h
  refine lv_aload_n hx hb d_Model_spread_0 rfl (lv_at hl 0 rfl) ?_
  refine same_i C hP hD hS (runV (As := []) (rest := []) C hP hD (m_Model_priceOfList N g μ   _ h H.size) kw_1077 kw_1079 kp_39 kw_12 kw_1080 hd_Model_priceOfList ⟨Nat.le_of_ble_eq_true rfl, Nat.le_of_ble_eq_true rfl⟩ ⟨Nat.le_of_ble_eq_true rfl, Nat.le_of_ble_eq_true rfl⟩ 0 rfl rfl rfl rfl hl.1 (Nat.le_of_ble_eq_true rfl) d_Model_spread_1) (fun r2 u1 H locs h hP hD hS => ?_)
  replace hP : va_P D CL (wModel k g μ) H := hP
  replace hD : va_D A (wModel k g μ) := hD
  try dsimp only at h
  refine lv_istore_n (lv' := [(2, .int r2), (0, .ref (g 0)), (1, .int x1)]) hx hb d_Model_spread_4 rfl hl (by decide) rfl (fun ls hl => ?_)
  refine lv_iload_n hx hb d_Model_spread_5 rfl (lv_at hl 0 rfl) ?_
  refine lv_iload_n hx hb d_Model_spread_6 rfl (lv_at hl 2 rfl) ?_
  refine lv_isub hx hb d_Model_spread_7 ?_
  refine lv_istore_n (lv' := [(3, .int (r2 - x1)), (2, .int r2), (0, .ref (g 0)), (1, .int x1)]) hx hb d_Model_spread_8 rfl hl (by decide) rfl (fun ls hl => ?_)
  refine lv_iload_n hx hb d_Model_spread_9 rfl (lv_at hl 0 rfl) ?_
  refine lv_istore (lv' := [(4, .int (r2 - x1)), (3, .int (r2 - x1)), (2, .int r2), (0, .ref (g 0)), (1, .int x1)]) hx hb d_Model_spread_10 hl (by decide) rfl (fun ls hl => ?_)
  refine lv_iconst (v := 0) hx hb d_Model_spread_12 (by decide) ?_
  refine lv_istore (lv' := [(5, .int 0), (4, .int (r2 - x1)), (3, .int (r2 - x1)), (2, .int r2), (0, .ref (g 0)), (1, .int x1)]) hx hb d_Model_spread_13 hl (by decide) rfl (fun ls hl => ?_)
  exact t_Model_spread_15 C N post   N r2 (r2 - x1) (r2 - x1) 0 μ _ _ _ hP hD hS (lv_sub hl [4, 3, 2, 1, 0] rfl) h
set_option maxHeartbeats 4000000 in
set_option maxRecDepth 100000 in
theorem t_Model_takeUse_2 {p : Program} {l : Launch} {e : Env} {s : State} {m : MethodId} {args : Array Value} {below : List Frame} {meth : Method} {c : Code} {A : Nat → Prop} {D : va_G} {k : Nat → ClassId} {g : Nat → Nat} (C : Cx p s m args meth c D k "PromotionTillModel" b_Model_takeUse 4 none A) (N : Nat) (post : ((St)) → Prop) :
    ∀ (n : Nat) (x1 : Int32) (x2 : Int32) (μ : (St)) (H : Heap) (locs : List Loc) (ls : Array Slot), va_P D CL (wModel k g μ) H → va_D A (wModel k g μ) → va_S A s.heap H locs → lv_has ls 4 [(0, .ref (g 0)), (1, .int x1), (2, .int x2)] → wp_Model_takeUse_2 N post n x1 x2 μ → W p l e rm_Model_takeUse s m args below meth c H locs 0 0 (MQ below (va_Qv post (fun (u : (St)) t => va_P D CL (wModel k g u) t.heap ∧ va_D A (wModel k g u)) A) args s rm_Model_takeUse.cells rm_Model_takeUse.slots A) (F0 m 2 ls []) := by
  obtain ⟨hx, hb, hr, hlk, hml, hown, hts, hK, hA⟩ := id C
  intro n
  induction n with
  | zero =>
    intro x1 x2 μ H locs ls hP hD hS hl h
    exact absurd h (by simp [wp_Model_takeUse_2])
  | succ n ih =>
    intro x1 x2 μ H locs ls hP hD hS hl h
    rw [wp_Model_takeUse_2] at h
    refine lv_iload_n hx hb d_Model_takeUse_2 rfl (lv_at hl 2 rfl) ?_
    refine lv_aload_n hx hb d_Model_takeUse_3 rfl (lv_at hl 0 rfl) ?_
    refine va_get (D := D) (ci := 8) (v := .int (μ 33 0)) (C := R_Model) (T := F_Model) (N := 40) hx hb hts in_Model hown hK hP 0 rfl rfl 33 (by decide) (hts _ kw_895) (fun _ h9 => h9) rfl d_Model_takeUse_4 ?_
    refine lv_icmp_ge (tgt := 51) hx hb d_Model_takeUse_7 (by decide) (fun c1 => ?_) (fun c1 => ?_)
    · replace h := h.1 c1
      refine lv_aload_n hx hb d_Model_takeUse_51 rfl (lv_at hl 0 rfl) ?_
      refine lv_aload_n hx hb d_Model_takeUse_52 rfl (lv_at hl 0 rfl) ?_
      refine lv_bipush (v := 6) hx hb d_Model_takeUse_53 (by decide) ?_
      refine lv_aload_n hx hb d_Model_takeUse_55 rfl (lv_at hl 0 rfl) ?_
      refine va_get (D := D) (ci := 8) (v := .int (μ 23 0)) (C := R_Model) (T := F_Model) (N := 40) hx hb hts in_Model hown hK hP 0 rfl rfl 23 (by decide) (hts _ kw_885) (fun _ h9 => h9) rfl d_Model_takeUse_56 ?_
      refine lv_imul hx hb d_Model_takeUse_59 ?_
      refine lv_iload_n hx hb d_Model_takeUse_60 rfl (lv_at hl 1 rfl) ?_
      refine lv_iadd hx hb d_Model_takeUse_61 ?_
      refine same_i C hP hD hS (runV (As := [.int ((6 * (μ 23 0)) + x1)]) (rest := [.ref (g 0)]) C hP hD (m_Model_costOfUse N g μ ((6 * (μ 23 0)) + x1)  _ h H.size) kw_1073 kw_1075 kp_38 kw_12 kw_1076 hd_Model_costOfUse ⟨Nat.le_of_ble_eq_true rfl, Nat.le_of_ble_eq_true rfl⟩ ⟨Nat.le_of_ble_eq_true rfl, Nat.le_of_ble_eq_true rfl⟩ 0 rfl rfl rfl rfl hl.1 (Nat.le_of_ble_eq_true rfl) d_Model_takeUse_62) (fun r3 u2 H locs h hP hD hS => ?_)
      replace hP : va_P D CL (wModel k g μ) H := hP
      replace hD : va_D A (wModel k g μ) := hD
      try dsimp only at h
      refine same_v C hP hD hS (runV (As := [.int r3]) (rest := []) C hP hD (m_Model_spread N g μ r3  _ h H.size) kw_1109 kw_1111 kp_47 kw_12 kw_1112 hd_Model_spread ⟨Nat.le_of_ble_eq_true rfl, Nat.le_of_ble_eq_true rfl⟩ ⟨Nat.le_of_ble_eq_true rfl, Nat.le_of_ble_eq_true rfl⟩ 0 rfl rfl rfl rfl hl.1 (Nat.le_of_ble_eq_true rfl) d_Model_takeUse_65) (fun u4 H locs h hP hD hS => ?_)
      replace hP : va_P D CL (wModel k g u4) H := hP
      replace hD : va_D A (wModel k g u4) := hD
      try dsimp only at h
      refine lv_aload_n hx hb d_Model_takeUse_68 rfl (lv_at hl 0 rfl) ?_
      refine lv_dup hx hb d_Model_takeUse_69 rfl ?_
      refine va_get (D := D) (ci := 8) (v := .int (u4 38 0)) (C := R_Model) (T := F_Model) (N := 40) hx hb hts in_Model hown hK hP 0 rfl rfl 38 (by decide) (hts _ kw_900) (fun _ h9 => h9) rfl d_Model_takeUse_70 ?_
      refine lv_iconst (v := 1) hx hb d_Model_takeUse_73 (by decide) ?_
      refine lv_iadd hx hb d_Model_takeUse_74 ?_
      refine va_put (D := D) (ci := 8) (v := .int ((u4 38 0) + 1)) (ty := .int) (C := R_Model) (T := F_Model) (N := 40) hx hb hts in_Model t_Model tt_Model n_Model hown hK hP hD hS 0 rfl rfl 38 (by decide) (hts _ kw_900) (fun _ h9 => h9) rfl (by decide +kernel) rfl rfl (Nat.le_of_ble_eq_true rfl) d_Model_takeUse_75 (fun H locs hP hD hS => ?_)
      obtain ⟨μ6, eμ6⟩ : ∃ z, z = s2 u4 38 0 ((u4 38 0) + 1) := ⟨_, rfl⟩
      replace hP : va_P D CL (wModel k g μ6) H := by rw [eμ6]; exact hP
      replace hD : va_D A (wModel k g μ6) := by rw [eμ6]; exact hD
      replace h := h μ6 eμ6
      exact ret_v (u := μ6) (wf := (fun u : (St) => wModel k g u)) C hP hD hS (Nat.zero_le _) (Nat.zero_le _) h d_Model_takeUse_78
    · replace h := h.2 c1
      refine lv_aload_n hx hb d_Model_takeUse_10 rfl (lv_at hl 0 rfl) ?_
      refine lv_aload_n hx hb d_Model_takeUse_11 rfl (lv_at hl 0 rfl) ?_
      refine va_get (D := D) (ci := 8) (v := .ref (g 26)) (C := R_Model) (T := F_Model) (N := 40) hx hb hts in_Model hown hK hP 0 rfl rfl 31 (by decide) (hts _ kw_893) (fun _ h9 => h9) rfl d_Model_takeUse_12 ?_
      refine lv_iload_n hx hb d_Model_takeUse_15 rfl (lv_at hl 2 rfl) ?_
      obtain ⟨hi7, h⟩ := h
      refine va_iald hx hb hK hP 26 0 rfl rfl hi7 d_Model_takeUse_16 ?_
      refine same_i C hP hD hS (runV (As := [.int (μ 31 (Int32.toNatClampNeg x2))]) (rest := []) C hP hD (m_Model_firstOf N g μ (μ 31 (Int32.toNatClampNeg x2))  _ h H.size) kw_1093 kw_1095 kp_43 kw_12 kw_1096 hd_Model_firstOf ⟨Nat.le_of_ble_eq_true rfl, Nat.le_of_ble_eq_true rfl⟩ ⟨Nat.le_of_ble_eq_true rfl, Nat.le_of_ble_eq_true rfl⟩ 0 rfl rfl rfl rfl hl.1 (Nat.le_of_ble_eq_true rfl) d_Model_takeUse_17) (fun r9 u8 H locs h hP hD hS => ?_)
      replace hP : va_P D CL (wModel k g μ) H := hP
      replace hD : va_D A (wModel k g μ) := hD
      try dsimp only at h
      refine lv_istore_n (lv' := [(3, .int r9), (0, .ref (g 0)), (1, .int x1), (2, .int x2)]) hx hb d_Model_takeUse_20 rfl hl (by decide) rfl (fun ls hl => ?_)
      refine lv_aload_n hx hb d_Model_takeUse_21 rfl (lv_at hl 1 rfl) ?_
      refine va_get (D := D) (ci := 8) (v := .ref (g 30)) (C := R_Model) (T := F_Model) (N := 40) hx hb hts in_Model hown hK hP 0 rfl rfl 37 (by decide) (hts _ kw_899) (fun _ h9 => h9) rfl d_Model_takeUse_22 ?_
      refine lv_iload_n hx hb d_Model_takeUse_25 rfl (lv_at hl 0 rfl) ?_
      refine lv_iconst (v := 1) hx hb d_Model_takeUse_26 (by decide) ?_
      obtain ⟨hi10, h⟩ := h
      refine va_zast hx hb hK hP hD hS 30 1 rfl rfl hi10 d_Model_takeUse_27 (fun H locs hP hD hS => ?_)
      obtain ⟨μ11, eμ11⟩ : ∃ z, z = s2 μ 37 (Int32.toNatClampNeg r9) (vp_nar .boolean 1) := ⟨_, rfl⟩
      replace hP : va_P D CL (wModel k g μ11) H := by rw [eμ11]; exact hP
      replace hD : va_D A (wModel k g μ11) := by rw [eμ11]; exact hD
      replace h := h μ11 eμ11
      refine lv_aload_n hx hb d_Model_takeUse_28 rfl (lv_at hl 1 rfl) ?_
      refine va_get (D := D) (ci := 8) (v := .ref (g 27)) (C := R_Model) (T := F_Model) (N := 40) hx hb hts in_Model hown hK hP 0 rfl rfl 34 (by decide) (hts _ kw_896) (fun _ h9 => h9) rfl d_Model_takeUse_29 ?_
      refine lv_iload_n hx hb d_Model_takeUse_32 rfl (lv_at hl 0 rfl) ?_
      refine lv_iload_n hx hb d_Model_takeUse_33 rfl (lv_at hl 2 rfl) ?_
      obtain ⟨hi12, h⟩ := h
      refine va_iast hx hb hK hP hD hS 27 0 rfl rfl hi12 d_Model_takeUse_34 (fun H locs hP hD hS => ?_)
      obtain ⟨μ13, eμ13⟩ : ∃ z, z = s2 μ11 34 (Int32.toNatClampNeg r9) x1 := ⟨_, rfl⟩
      replace hP : va_P D CL (wModel k g μ13) H := by rw [eμ13]; exact hP
      replace hD : va_D A (wModel k g μ13) := by rw [eμ13]; exact hD
      replace h := h μ13 eμ13
      refine lv_aload_n hx hb d_Model_takeUse_35 rfl (lv_at hl 1 rfl) ?_
      refine va_get (D := D) (ci := 8) (v := .ref (g 28)) (C := R_Model) (T := F_Model) (N := 40) hx hb hts in_Model hown hK hP 0 rfl rfl 35 (by decide) (hts _ kw_897) (fun _ h9 => h9) rfl d_Model_takeUse_36 ?_
      refine lv_iload_n hx hb d_Model_takeUse_39 rfl (lv_at hl 0 rfl) ?_
      refine lv_aload_n hx hb d_Model_takeUse_40 rfl (lv_at hl 1 rfl) ?_
      refine va_get (D := D) (ci := 8) (v := .int (μ13 38 0)) (C := R_Model) (T := F_Model) (N := 40) hx hb hts in_Model hown hK hP 0 rfl rfl 38 (by decide) (hts _ kw_900) (fun _ h9 => h9) rfl d_Model_takeUse_41 ?_
      obtain ⟨hi14, h⟩ := h
      refine va_iast hx hb hK hP hD hS 28 0 rfl rfl hi14 d_Model_takeUse_44 (fun H locs hP hD hS => ?_)
      obtain ⟨μ15, eμ15⟩ : ∃ z, z = s2 μ13 35 (Int32.toNatClampNeg r9) (μ13 38 0) := ⟨_, rfl⟩
      replace hP : va_P D CL (wModel k g μ15) H := by rw [eμ15]; exact hP
      replace hD : va_D A (wModel k g μ15) := by rw [eμ15]; exact hD
      replace h := h μ15 eμ15
      refine lv_iinc (v := x2 + 1) (lv' := [(2, .int (x2 + 1)), (3, .int r9), (0, .ref (g 0)), (1, .int x1)]) hx hb d_Model_takeUse_45 hl (k := 3) rfl rfl (by decide) rfl (fun ls hl => ?_)
      refine lv_goto (tgt := 2) hx hb d_Model_takeUse_48 (by decide) ?_
      exact ih x1 (x2 + 1) μ15 _ _ _ hP hD hS (lv_sub hl [2, 3, 0] rfl) h
set_option maxHeartbeats 4000000 in
set_option maxRecDepth 100000 in
theorem m_Model_takeUse {l : Launch} {D : va_G} {k : Nat → ClassId} (N : Nat) (g : Nat → Nat) (μ : St) (x1 : Int32) (post : ((St)) → Prop) (h : wp_Model_takeUse N  μ x1 post) : Cv l D k y_Model_takeUse b_Model_takeUse 4 rm_Model_takeUse [.ref (g 0), .int x1] (wModel k g μ) (fun u : (St) => wModel k g u) post := by
  refine Cv.of (by decide) (Nat.le_of_ble_eq_true rfl) ?_
  intro p e s m below meth c A H locs ls C hP hD hS hl
  obtain ⟨hx, hb, hr, hlk, hml, hown, hts, hK, hA⟩ := id C
  replace hl : lv_has ls 4 [(0, .ref (g 0)), (1, .int x1)] := hl
  unfold wp_Model_takeUse at h
  refine lv_iconst (v := 0) hx hb d_Model_takeUse_0 (by decide) ?_
  refine lv_istore_n (lv' := [(2, .int 0), (0, .ref (g 0)), (1, .int x1)]) hx hb d_Model_takeUse_1 rfl hl (by decide) rfl (fun ls hl => ?_)
  exact t_Model_takeUse_2 C N post   N x1 0 μ _ _ _ hP hD hS (lv_sub hl [1, 2, 0] rfl) h
set_option maxHeartbeats 4000000 in
set_option maxRecDepth 100000 in
theorem t_Model_findUse_21 {p : Program} {l : Launch} {e : Env} {s : State} {m : MethodId} {args : Array Value} {below : List Frame} {meth : Method} {c : Code} {A : Nat → Prop} {D : va_G} {k : Nat → ClassId} {g : Nat → Nat} (C : Cx p s m args meth c D k "PromotionTillModel" b_Model_findUse 4 (some .int) A) (N : Nat) (post : Int32 → ((St)) → Prop) (K_2 : Int32 → Int32 → Int32 → (St) → Prop) (hK_2 : ∀ (x1 : Int32) (x2 : Int32) (x3 : Int32) (μ : (St)) (H : Heap) (locs : List Loc) (ls : Array Slot), va_P D CL (wModel k g μ) H → va_D A (wModel k g μ) → va_S A s.heap H locs → lv_has ls 4 [(0, .ref (g 0)), (1, .int x1), (2, .int x2), (3, .int x3)] → K_2 x1 x2 x3 μ → W p l e rm_Model_findUse s m args below meth c H locs 0 0 (MQ below (va_Qi post (fun (u : (St)) t => va_P D CL (wModel k g u) t.heap ∧ va_D A (wModel k g u)) A) args s rm_Model_findUse.cells rm_Model_findUse.slots A) (F0 m 2 ls [])) :
    ∀ (n : Nat) (x1 : Int32) (x2 : Int32) (x3 : Int32) (μ : (St)) (H : Heap) (locs : List Loc) (ls : Array Slot), va_P D CL (wModel k g μ) H → va_D A (wModel k g μ) → va_S A s.heap H locs → lv_has ls 4 [(0, .ref (g 0)), (1, .int x1), (2, .int x2), (3, .int x3)] → wp_Model_findUse_21 N post K_2 n x1 x2 x3 μ → W p l e rm_Model_findUse s m args below meth c H locs 0 0 (MQ below (va_Qi post (fun (u : (St)) t => va_P D CL (wModel k g u) t.heap ∧ va_D A (wModel k g u)) A) args s rm_Model_findUse.cells rm_Model_findUse.slots A) (F0 m 21 ls []) := by
  obtain ⟨hx, hb, hr, hlk, hml, hown, hts, hK, hA⟩ := id C
  intro n
  induction n with
  | zero =>
    intro x1 x2 x3 μ H locs ls hP hD hS hl h
    exact absurd h (by simp [wp_Model_findUse_21])
  | succ n ih =>
    intro x1 x2 x3 μ H locs ls hP hD hS hl h
    rw [wp_Model_findUse_21] at h
    refine lv_aload_n hx hb d_Model_findUse_21 rfl (lv_at hl 0 rfl) ?_
    refine lv_iload_n hx hb d_Model_findUse_22 rfl (lv_at hl 3 rfl) ?_
    refine same_i C hP hD hS (runV (As := [.int x3]) (rest := []) C hP hD (m_Model_nextUse N g μ x3  _ h H.size) kw_1065 kw_1067 kp_36 kw_12 kw_1068 hd_Model_nextUse ⟨Nat.le_of_ble_eq_true rfl, Nat.le_of_ble_eq_true rfl⟩ ⟨Nat.le_of_ble_eq_true rfl, Nat.le_of_ble_eq_true rfl⟩ 0 rfl rfl rfl rfl hl.1 (Nat.le_of_ble_eq_true rfl) d_Model_findUse_23) (fun r5 u4 H locs h hP hD hS => ?_)
    replace hP : va_P D CL (wModel k g u4) H := hP
    replace hD : va_D A (wModel k g u4) := hD
    try dsimp only at h
    refine lv_if_eq (tgt := 73) hx hb d_Model_findUse_26 (by decide) (fun c6 => ?_) (fun c6 => ?_)
    · replace h := h.1 c6
      refine lv_iinc (v := x3 + 1) (lv' := [(3, .int (x3 + 1)), (0, .ref (g 0)), (1, .int x1), (2, .int x2)]) hx hb d_Model_findUse_73 hl (k := 3) rfl rfl (by decide) rfl (fun ls hl => ?_)
      refine lv_goto (tgt := 2) hx hb d_Model_findUse_76 (by decide) ?_
      exact hK_2 x1 x2 (x3 + 1) u4 _ _ _ hP hD hS (lv_sub hl [1, 2, 3, 0] rfl) h
    · replace h := h.2 c6
      refine lv_aload_n hx hb d_Model_findUse_29 rfl (lv_at hl 0 rfl) ?_
      refine lv_iload_n hx hb d_Model_findUse_30 rfl (lv_at hl 2 rfl) ?_
      refine same_i C hP hD hS (runV (As := [.int x2]) (rest := []) C hP hD (m_Model_listHas N g u4 x2  _ h H.size) kw_1101 kw_1103 kp_45 kw_12 kw_1104 hd_Model_listHas ⟨Nat.le_of_ble_eq_true rfl, Nat.le_of_ble_eq_true rfl⟩ ⟨Nat.le_of_ble_eq_true rfl, Nat.le_of_ble_eq_true rfl⟩ 0 rfl rfl rfl rfl hl.1 (Nat.le_of_ble_eq_true rfl) d_Model_findUse_31) (fun r8 u7 H locs h hP hD hS => ?_)
      replace hP : va_P D CL (wModel k g u4) H := hP
      replace hD : va_D A (wModel k g u4) := hD
      try dsimp only at h
      refine lv_if_eq (tgt := 21) hx hb d_Model_findUse_34 (by decide) (fun c9 => ?_) (fun c9 => ?_)
      · replace h := h.1 c9
        exact ih x1 x2 x3 u4 _ _ _ hP hD hS (lv_sub hl [0, 1, 2, 3] rfl) h
      · replace h := h.2 c9
        refine lv_aload_n hx hb d_Model_findUse_37 rfl (lv_at hl 0 rfl) ?_
        refine lv_bipush (v := 6) hx hb d_Model_findUse_38 (by decide) ?_
        refine lv_aload_n hx hb d_Model_findUse_40 rfl (lv_at hl 0 rfl) ?_
        refine va_get (D := D) (ci := 8) (v := .int (u4 23 0)) (C := R_Model) (T := F_Model) (N := 40) hx hb hts in_Model hown hK hP 0 rfl rfl 23 (by decide) (hts _ kw_885) (fun _ h9 => h9) rfl d_Model_findUse_41 ?_
        refine lv_imul hx hb d_Model_findUse_44 ?_
        refine lv_iload_n hx hb d_Model_findUse_45 rfl (lv_at hl 3 rfl) ?_
        refine lv_iadd hx hb d_Model_findUse_46 ?_
        refine same_i C hP hD hS (runV (As := [.int ((6 * (u4 23 0)) + x3)]) (rest := []) C hP hD (m_Model_costOfUse N g u4 ((6 * (u4 23 0)) + x3)  _ h H.size) kw_1073 kw_1075 kp_38 kw_12 kw_1076 hd_Model_costOfUse ⟨Nat.le_of_ble_eq_true rfl, Nat.le_of_ble_eq_true rfl⟩ ⟨Nat.le_of_ble_eq_true rfl, Nat.le_of_ble_eq_true rfl⟩ 0 rfl rfl rfl rfl hl.1 (Nat.le_of_ble_eq_true rfl) d_Model_findUse_47) (fun r11 u10 H locs h hP hD hS => ?_)
        replace hP : va_P D CL (wModel k g u4) H := hP
        replace hD : va_D A (wModel k g u4) := hD
        try dsimp only at h
        refine lv_aload_n hx hb d_Model_findUse_50 rfl (lv_at hl 0 rfl) ?_
        refine va_get (D := D) (ci := 8) (v := .ref (g 25)) (C := R_Model) (T := F_Model) (N := 40) hx hb hts in_Model hown hK hP 0 rfl rfl 30 (by decide) (hts _ kw_892) (fun _ h9 => h9) rfl d_Model_findUse_51 ?_
        refine lv_aload_n hx hb d_Model_findUse_54 rfl (lv_at hl 0 rfl) ?_
        refine lv_iload_n hx hb d_Model_findUse_55 rfl (lv_at hl 1 rfl) ?_
        refine lv_iload_n hx hb d_Model_findUse_56 rfl (lv_at hl 3 rfl) ?_
        refine same_i C hP hD hS (runV (As := [.int x1, .int x3]) (rest := [.ref (g 25), .int r11]) C hP hD (m_Model_behindUse N g u4 x1 x3  _ h H.size) kw_1069 kw_1071 kp_37 kw_12 kw_1072 hd_Model_behindUse ⟨Nat.le_of_ble_eq_true rfl, Nat.le_of_ble_eq_true rfl⟩ ⟨Nat.le_of_ble_eq_true rfl, Nat.le_of_ble_eq_true rfl⟩ 0 rfl rfl rfl rfl hl.1 (Nat.le_of_ble_eq_true rfl) d_Model_findUse_57) (fun r13 u12 H locs h hP hD hS => ?_)
        replace hP : va_P D CL (wModel k g u4) H := hP
        replace hD : va_D A (wModel k g u4) := hD
        try dsimp only at h
        obtain ⟨hi14, h⟩ := h
        refine va_iald hx hb hK hP 25 0 rfl rfl hi14 d_Model_findUse_60 ?_
        refine lv_iadd hx hb d_Model_findUse_61 ?_
        refine lv_aload_n hx hb d_Model_findUse_62 rfl (lv_at hl 0 rfl) ?_
        refine va_get (D := D) (ci := 8) (v := .ref (g 25)) (C := R_Model) (T := F_Model) (N := 40) hx hb hts in_Model hown hK hP 0 rfl rfl 30 (by decide) (hts _ kw_892) (fun _ h9 => h9) rfl d_Model_findUse_63 ?_
        refine lv_iload_n hx hb d_Model_findUse_66 rfl (lv_at hl 1 rfl) ?_
        obtain ⟨hi15, h⟩ := h
        refine va_iald hx hb hK hP 25 0 rfl rfl hi15 d_Model_findUse_67 ?_
        refine lv_icmp_ne (tgt := 21) hx hb d_Model_findUse_68 (by decide) (fun c16 => ?_) (fun c16 => ?_)
        · replace h := h.1 c16
          exact ih x1 x2 x3 u4 _ _ _ hP hD hS (lv_sub hl [0, 1, 2, 3] rfl) h
        · replace h := h.2 c16
          refine lv_iload_n hx hb d_Model_findUse_71 rfl (lv_at hl 3 rfl) ?_
          exact ret_i (u := u4) (wf := (fun u : (St) => wModel k g u)) C hP hD hS (Nat.zero_le _) (Nat.zero_le _) h d_Model_findUse_72
set_option maxHeartbeats 4000000 in
set_option maxRecDepth 100000 in
theorem t_Model_findUse_2 {p : Program} {l : Launch} {e : Env} {s : State} {m : MethodId} {args : Array Value} {below : List Frame} {meth : Method} {c : Code} {A : Nat → Prop} {D : va_G} {k : Nat → ClassId} {g : Nat → Nat} (C : Cx p s m args meth c D k "PromotionTillModel" b_Model_findUse 4 (some .int) A) (N : Nat) (post : Int32 → ((St)) → Prop) :
    ∀ (n : Nat) (x1 : Int32) (x2 : Int32) (x3 : Int32) (μ : (St)) (H : Heap) (locs : List Loc) (ls : Array Slot), va_P D CL (wModel k g μ) H → va_D A (wModel k g μ) → va_S A s.heap H locs → lv_has ls 4 [(0, .ref (g 0)), (1, .int x1), (2, .int x2), (3, .int x3)] → wp_Model_findUse_2 N post n x1 x2 x3 μ → W p l e rm_Model_findUse s m args below meth c H locs 0 0 (MQ below (va_Qi post (fun (u : (St)) t => va_P D CL (wModel k g u) t.heap ∧ va_D A (wModel k g u)) A) args s rm_Model_findUse.cells rm_Model_findUse.slots A) (F0 m 2 ls []) := by
  obtain ⟨hx, hb, hr, hlk, hml, hown, hts, hK, hA⟩ := id C
  intro n
  induction n with
  | zero =>
    intro x1 x2 x3 μ H locs ls hP hD hS hl h
    exact absurd h (by simp [wp_Model_findUse_2])
  | succ n ih =>
    intro x1 x2 x3 μ H locs ls hP hD hS hl h
    rw [wp_Model_findUse_2] at h
    refine lv_iload_n hx hb d_Model_findUse_2 rfl (lv_at hl 3 rfl) ?_
    refine lv_bipush (v := 6) hx hb d_Model_findUse_3 (by decide) ?_
    refine lv_icmp_ge (tgt := 79) hx hb d_Model_findUse_5 (by decide) (fun c1 => ?_) (fun c1 => ?_)
    · replace h := h.1 c1
      refine lv_iconst (v := (-1)) hx hb d_Model_findUse_79 (by decide) ?_
      exact ret_i (u := μ) (wf := (fun u : (St) => wModel k g u)) C hP hD hS (Nat.zero_le _) (Nat.zero_le _) h d_Model_findUse_80
    · replace h := h.2 c1
      refine lv_aload_n hx hb d_Model_findUse_8 rfl (lv_at hl 0 rfl) ?_
      refine lv_bipush (v := 6) hx hb d_Model_findUse_9 (by decide) ?_
      refine lv_aload_n hx hb d_Model_findUse_11 rfl (lv_at hl 0 rfl) ?_
      refine va_get (D := D) (ci := 8) (v := .int (μ 23 0)) (C := R_Model) (T := F_Model) (N := 40) hx hb hts in_Model hown hK hP 0 rfl rfl 23 (by decide) (hts _ kw_885) (fun _ h9 => h9) rfl d_Model_findUse_12 ?_
      refine lv_imul hx hb d_Model_findUse_15 ?_
      refine lv_iload_n hx hb d_Model_findUse_16 rfl (lv_at hl 3 rfl) ?_
      refine lv_iadd hx hb d_Model_findUse_17 ?_
      refine same_v C hP hD hS (runV (As := [.int ((6 * (μ 23 0)) + x3)]) (rest := []) C hP hD (m_Model_beginUses N g μ ((6 * (μ 23 0)) + x3)  _ h H.size) kw_1061 kw_1063 kp_35 kw_12 kw_1064 hd_Model_beginUses ⟨Nat.le_of_ble_eq_true rfl, Nat.le_of_ble_eq_true rfl⟩ ⟨Nat.le_of_ble_eq_true rfl, Nat.le_of_ble_eq_true rfl⟩ 0 rfl rfl rfl rfl hl.1 (Nat.le_of_ble_eq_true rfl) d_Model_findUse_18) (fun u2 H locs h hP hD hS => ?_)
      replace hP : va_P D CL (wModel k g u2) H := hP
      replace hD : va_D A (wModel k g u2) := hD
      try dsimp only at h
      exact t_Model_findUse_21 C N post (wp_Model_findUse_2 N post n) ih N x1 x2 x3 u2 _ _ _ hP hD hS (lv_sub hl [0, 1, 2, 3] rfl) h
set_option maxHeartbeats 4000000 in
set_option maxRecDepth 100000 in
theorem m_Model_findUse {l : Launch} {D : va_G} {k : Nat → ClassId} (N : Nat) (g : Nat → Nat) (μ : St) (x1 : Int32) (x2 : Int32) (post : Int32 → ((St)) → Prop) (h : wp_Model_findUse N  μ x1 x2 post) : Ci l D k y_Model_findUse b_Model_findUse 4 .int rm_Model_findUse [.ref (g 0), .int x1, .int x2] (wModel k g μ) (fun u : (St) => wModel k g u) post := by
  refine Ci.of (by decide) (Nat.le_of_ble_eq_true rfl) ?_
  intro p e s m below meth c A H locs ls C hP hD hS hl
  obtain ⟨hx, hb, hr, hlk, hml, hown, hts, hK, hA⟩ := id C
  replace hl : lv_has ls 4 [(0, .ref (g 0)), (1, .int x1), (2, .int x2)] := hl
  unfold wp_Model_findUse at h
  refine lv_iconst (v := 0) hx hb d_Model_findUse_0 (by decide) ?_
  refine lv_istore_n (lv' := [(3, .int 0), (0, .ref (g 0)), (1, .int x1), (2, .int x2)]) hx hb d_Model_findUse_1 rfl hl (by decide) rfl (fun ls hl => ?_)
  exact t_Model_findUse_2 C N post   N x1 x2 0 μ _ _ _ hP hD hS (lv_sub hl [1, 2, 3, 0] rfl) h
set_option maxHeartbeats 4000000 in
set_option maxRecDepth 100000 in
theorem t_Model_plan_182 {p : Program} {l : Launch} {e : Env} {s : State} {m : MethodId} {args : Array Value} {below : List Frame} {meth : Method} {c : Code} {A : Nat → Prop} {D : va_G} {k : Nat → ClassId} {g : Nat → Nat} (C : Cx p s m args meth c D k "PromotionTillModel" b_Model_plan 5 none A) (N : Nat) (post : ((St)) → Prop) (K_67 : Int32 → Int32 → (St) → Prop) (hK_67 : ∀ (x1 : Int32) (x2 : Int32) (μ : (St)) (H : Heap) (locs : List Loc) (ls : Array Slot), va_P D CL (wModel k g μ) H → va_D A (wModel k g μ) → va_S A s.heap H locs → lv_has ls 5 [(0, .ref (g 0)), (1, .int x1), (2, .int x2)] → K_67 x1 x2 μ → W p l e rm_Model_plan s m args below meth c H locs 0 0 (MQ below (va_Qv post (fun (u : (St)) t => va_P D CL (wModel k g u) t.heap ∧ va_D A (wModel k g u)) A) args s rm_Model_plan.cells rm_Model_plan.slots A) (F0 m 67 ls [])) :
    ∀ (x1 : Int32) (x2 : Int32) (μ : (St)) (H : Heap) (locs : List Loc) (ls : Array Slot), va_P D CL (wModel k g μ) H → va_D A (wModel k g μ) → va_S A s.heap H locs → lv_has ls 5 [(0, .ref (g 0)), (1, .int x1), (2, .int x2)] → wp_Model_plan_182 N post K_67 x1 x2 μ → W p l e rm_Model_plan s m args below meth c H locs 0 0 (MQ below (va_Qv post (fun (u : (St)) t => va_P D CL (wModel k g u) t.heap ∧ va_D A (wModel k g u)) A) args s rm_Model_plan.cells rm_Model_plan.slots A) (F0 m 182 ls []) := by
  obtain ⟨hx, hb, hr, hlk, hml, hown, hts, hK, hA⟩ := id C
  intro x1 x2 μ H locs ls hP hD hS hl h
  unfold wp_Model_plan_182 at h
  refine lv_iinc (v := x2 + 1) (lv' := [(2, .int (x2 + 1)), (0, .ref (g 0)), (1, .int x1)]) hx hb d_Model_plan_182 hl (k := 2) rfl rfl (by decide) rfl (fun ls hl => ?_)
  refine lv_goto (tgt := 67) hx hb d_Model_plan_185 (by decide) ?_
  exact hK_67 x1 (x2 + 1) μ _ _ _ hP hD hS (lv_sub hl [1, 2, 0] rfl) h
set_option maxHeartbeats 4000000 in
set_option maxRecDepth 100000 in
theorem t_Model_plan_101 {p : Program} {l : Launch} {e : Env} {s : State} {m : MethodId} {args : Array Value} {below : List Frame} {meth : Method} {c : Code} {A : Nat → Prop} {D : va_G} {k : Nat → ClassId} {g : Nat → Nat} (C : Cx p s m args meth c D k "PromotionTillModel" b_Model_plan 5 none A) (N : Nat) (post : ((St)) → Prop) (K_67 : Int32 → Int32 → (St) → Prop) (hK_67 : ∀ (x1 : Int32) (x2 : Int32) (μ : (St)) (H : Heap) (locs : List Loc) (ls : Array Slot), va_P D CL (wModel k g μ) H → va_D A (wModel k g μ) → va_S A s.heap H locs → lv_has ls 5 [(0, .ref (g 0)), (1, .int x1), (2, .int x2)] → K_67 x1 x2 μ → W p l e rm_Model_plan s m args below meth c H locs 0 0 (MQ below (va_Qv post (fun (u : (St)) t => va_P D CL (wModel k g u) t.heap ∧ va_D A (wModel k g u)) A) args s rm_Model_plan.cells rm_Model_plan.slots A) (F0 m 67 ls [])) :
    ∀ (x1 : Int32) (x2 : Int32) (x3 : Int32) (μ : (St)) (H : Heap) (locs : List Loc) (ls : Array Slot), va_P D CL (wModel k g μ) H → va_D A (wModel k g μ) → va_S A s.heap H locs → lv_has ls 5 [(0, .ref (g 0)), (1, .int x1), (2, .int x2), (3, .int x3)] → wp_Model_plan_101 N post K_67 x1 x2 x3 μ → W p l e rm_Model_plan s m args below meth c H locs 0 0 (MQ below (va_Qv post (fun (u : (St)) t => va_P D CL (wModel k g u) t.heap ∧ va_D A (wModel k g u)) A) args s rm_Model_plan.cells rm_Model_plan.slots A) (F0 m 101 ls []) := by
  obtain ⟨hx, hb, hr, hlk, hml, hown, hts, hK, hA⟩ := id C
  intro x1 x2 x3 μ H locs ls hP hD hS hl h
  unfold wp_Model_plan_101 at h
  refine lv_iload_n hx hb d_Model_plan_101 rfl (lv_at hl 3 rfl) ?_
  refine lv_bipush (v := 12) hx hb d_Model_plan_102 (by decide) ?_
  refine lv_icmp_ne (tgt := 108) hx hb d_Model_plan_104 (by decide) (fun c20 => ?_) (fun c20 => ?_)
  · replace h := h.1 c20
    refine lv_aload_n hx hb d_Model_plan_108 rfl (lv_at hl 0 rfl) ?_
    refine va_get (D := D) (ci := 8) (v := .ref (g 24)) (C := R_Model) (T := F_Model) (N := 40) hx hb hts in_Model hown hK hP 0 rfl rfl 28 (by decide) (hts _ kw_890) (fun _ h9 => h9) rfl d_Model_plan_109 ?_
    refine lv_iload_n hx hb d_Model_plan_112 rfl (lv_at hl 3 rfl) ?_
    obtain ⟨hi21, h⟩ := h
    refine va_iald hx hb hK hP 24 0 rfl rfl hi21 d_Model_plan_113 ?_
    refine lv_aload_n hx hb d_Model_plan_114 rfl (lv_at hl 0 rfl) ?_
    refine va_get (D := D) (ci := 8) (v := .ref (g 25)) (C := R_Model) (T := F_Model) (N := 40) hx hb hts in_Model hown hK hP 0 rfl rfl 30 (by decide) (hts _ kw_892) (fun _ h9 => h9) rfl d_Model_plan_115 ?_
    refine lv_iload_n hx hb d_Model_plan_118 rfl (lv_at hl 1 rfl) ?_
    refine lv_aload_n hx hb d_Model_plan_119 rfl (lv_at hl 0 rfl) ?_
    refine va_get (D := D) (ci := 8) (v := .ref (g 22)) (C := R_Model) (T := F_Model) (N := 40) hx hb hts in_Model hown hK hP 0 rfl rfl 26 (by decide) (hts _ kw_888) (fun _ h9 => h9) rfl d_Model_plan_120 ?_
    refine lv_iload_n hx hb d_Model_plan_123 rfl (lv_at hl 3 rfl) ?_
    obtain ⟨hi22, h⟩ := h
    refine va_iald hx hb hK hP 22 0 rfl rfl hi22 d_Model_plan_124 ?_
    refine lv_isub hx hb d_Model_plan_125 ?_
    obtain ⟨hi23, h⟩ := h
    refine va_iald hx hb hK hP 25 0 rfl rfl hi23 d_Model_plan_126 ?_
    refine lv_iadd hx hb d_Model_plan_127 ?_
    refine lv_aload_n hx hb d_Model_plan_128 rfl (lv_at hl 0 rfl) ?_
    refine va_get (D := D) (ci := 8) (v := .ref (g 25)) (C := R_Model) (T := F_Model) (N := 40) hx hb hts in_Model hown hK hP 0 rfl rfl 30 (by decide) (hts _ kw_892) (fun _ h9 => h9) rfl d_Model_plan_129 ?_
    refine lv_iload_n hx hb d_Model_plan_132 rfl (lv_at hl 1 rfl) ?_
    obtain ⟨hi24, h⟩ := h
    refine va_iald hx hb hK hP 25 0 rfl rfl hi24 d_Model_plan_133 ?_
    refine lv_icmp_ne (tgt := 160) hx hb d_Model_plan_134 (by decide) (fun c25 => ?_) (fun c25 => ?_)
    · replace h := h.1 c25
      refine lv_aload_n hx hb d_Model_plan_160 rfl (lv_at hl 0 rfl) ?_
      refine lv_iload_n hx hb d_Model_plan_161 rfl (lv_at hl 1 rfl) ?_
      refine lv_iload_n hx hb d_Model_plan_162 rfl (lv_at hl 3 rfl) ?_
      refine same_i C hP hD hS (runV (As := [.int x1, .int x3]) (rest := []) C hP hD (m_Model_findUse N g μ x1 x3  _ h H.size) kw_1097 kw_1099 kp_44 kw_12 kw_1100 hd_Model_findUse ⟨Nat.le_of_ble_eq_true rfl, Nat.le_of_ble_eq_true rfl⟩ ⟨Nat.le_of_ble_eq_true rfl, Nat.le_of_ble_eq_true rfl⟩ 0 rfl rfl rfl rfl hl.1 (Nat.le_of_ble_eq_true rfl) d_Model_plan_163) (fun r27 u26 H locs h hP hD hS => ?_)
      replace hP : va_P D CL (wModel k g u26) H := hP
      replace hD : va_D A (wModel k g u26) := hD
      try dsimp only at h
      refine lv_istore (lv' := [(4, .int r27), (0, .ref (g 0)), (1, .int x1), (2, .int x2), (3, .int x3)]) hx hb d_Model_plan_166 hl (by decide) rfl (fun ls hl => ?_)
      refine lv_aload_n hx hb d_Model_plan_168 rfl (lv_at hl 1 rfl) ?_
      refine lv_iload hx hb d_Model_plan_169 (lv_at hl 0 rfl) ?_
      refine same_v C hP hD hS (runV (As := [.int r27]) (rest := []) C hP hD (m_Model_takeUse N g u26 r27  _ h H.size) kw_1105 kw_1107 kp_46 kw_12 kw_1108 hd_Model_takeUse ⟨Nat.le_of_ble_eq_true rfl, Nat.le_of_ble_eq_true rfl⟩ ⟨Nat.le_of_ble_eq_true rfl, Nat.le_of_ble_eq_true rfl⟩ 0 rfl rfl rfl rfl hl.1 (Nat.le_of_ble_eq_true rfl) d_Model_plan_171) (fun u28 H locs h hP hD hS => ?_)
      replace hP : va_P D CL (wModel k g u28) H := hP
      replace hD : va_D A (wModel k g u28) := hD
      try dsimp only at h
      refine lv_aload_n hx hb d_Model_plan_174 rfl (lv_at hl 1 rfl) ?_
      refine lv_iload_n hx hb d_Model_plan_175 rfl (lv_at hl 2 rfl) ?_
      refine lv_iload hx hb d_Model_plan_176 (lv_at hl 0 rfl) ?_
      refine same_i C hP hD hS (runV (As := [.int x1, .int r27]) (rest := []) C hP hD (m_Model_behindUse N g u28 x1 r27  _ h H.size) kw_1069 kw_1071 kp_37 kw_12 kw_1072 hd_Model_behindUse ⟨Nat.le_of_ble_eq_true rfl, Nat.le_of_ble_eq_true rfl⟩ ⟨Nat.le_of_ble_eq_true rfl, Nat.le_of_ble_eq_true rfl⟩ 0 rfl rfl rfl rfl hl.1 (Nat.le_of_ble_eq_true rfl) d_Model_plan_178) (fun r31 u30 H locs h hP hD hS => ?_)
      replace hP : va_P D CL (wModel k g u28) H := hP
      replace hD : va_D A (wModel k g u28) := hD
      try dsimp only at h
      refine lv_istore_n (lv' := [(1, .int r31), (4, .int r27), (0, .ref (g 0)), (2, .int x2), (3, .int x3)]) hx hb d_Model_plan_181 rfl hl (by decide) rfl (fun ls hl => ?_)
      exact t_Model_plan_182 C N post (K_67) hK_67 r31 x2 u28 _ _ _ hP hD hS (lv_sub hl [2, 0, 3] rfl) h
    · replace h := h.2 c25
      refine lv_aload_n hx hb d_Model_plan_137 rfl (lv_at hl 0 rfl) ?_
      refine va_get (D := D) (ci := 8) (v := .ref (g 30)) (C := R_Model) (T := F_Model) (N := 40) hx hb hts in_Model hown hK hP 0 rfl rfl 37 (by decide) (hts _ kw_899) (fun _ h9 => h9) rfl d_Model_plan_138 ?_
      refine lv_aload_n hx hb d_Model_plan_141 rfl (lv_at hl 0 rfl) ?_
      refine lv_iload_n hx hb d_Model_plan_142 rfl (lv_at hl 3 rfl) ?_
      refine same_i C hP hD hS (runV (As := [.int x3]) (rest := [.ref (g 30)]) C hP hD (m_Model_firstOf N g μ x3  _ h H.size) kw_1093 kw_1095 kp_43 kw_12 kw_1096 hd_Model_firstOf ⟨Nat.le_of_ble_eq_true rfl, Nat.le_of_ble_eq_true rfl⟩ ⟨Nat.le_of_ble_eq_true rfl, Nat.le_of_ble_eq_true rfl⟩ 0 rfl rfl rfl rfl hl.1 (Nat.le_of_ble_eq_true rfl) d_Model_plan_143) (fun r33 u32 H locs h hP hD hS => ?_)
      replace hP : va_P D CL (wModel k g μ) H := hP
      replace hD : va_D A (wModel k g μ) := hD
      try dsimp only at h
      refine lv_iconst (v := 1) hx hb d_Model_plan_146 (by decide) ?_
      obtain ⟨hi34, h⟩ := h
      refine va_zast hx hb hK hP hD hS 30 1 rfl rfl hi34 d_Model_plan_147 (fun H locs hP hD hS => ?_)
      obtain ⟨μ35, eμ35⟩ : ∃ z, z = s2 μ 37 (Int32.toNatClampNeg r33) (vp_nar .boolean 1) := ⟨_, rfl⟩
      replace hP : va_P D CL (wModel k g μ35) H := by rw [eμ35]; exact hP
      replace hD : va_D A (wModel k g μ35) := by rw [eμ35]; exact hD
      replace h := h μ35 eμ35
      refine lv_iload_n hx hb d_Model_plan_148 rfl (lv_at hl 1 rfl) ?_
      refine lv_aload_n hx hb d_Model_plan_149 rfl (lv_at hl 0 rfl) ?_
      refine va_get (D := D) (ci := 8) (v := .ref (g 22)) (C := R_Model) (T := F_Model) (N := 40) hx hb hts in_Model hown hK hP 0 rfl rfl 26 (by decide) (hts _ kw_888) (fun _ h9 => h9) rfl d_Model_plan_150 ?_
      refine lv_iload_n hx hb d_Model_plan_153 rfl (lv_at hl 3 rfl) ?_
      obtain ⟨hi36, h⟩ := h
      refine va_iald hx hb hK hP 22 0 rfl rfl hi36 d_Model_plan_154 ?_
      refine lv_isub hx hb d_Model_plan_155 ?_
      refine lv_istore_n (lv' := [(1, .int (x1 - (μ35 26 (Int32.toNatClampNeg x3)))), (0, .ref (g 0)), (2, .int x2), (3, .int x3)]) hx hb d_Model_plan_156 rfl hl (by decide) rfl (fun ls hl => ?_)
      refine lv_goto (tgt := 182) hx hb d_Model_plan_157 (by decide) ?_
      exact t_Model_plan_182 C N post (K_67) hK_67 (x1 - (μ35 26 (Int32.toNatClampNeg x3))) x2 μ35 _ _ _ hP hD hS (lv_sub hl [1, 0, 2] rfl) h
  · replace h := h.2 c20
    exact ret_v (u := μ) (wf := (fun u : (St) => wModel k g u)) C hP hD hS (Nat.zero_le _) (Nat.zero_le _) h d_Model_plan_107
set_option maxHeartbeats 4000000 in
set_option maxRecDepth 100000 in
theorem t_Model_plan_80 {p : Program} {l : Launch} {e : Env} {s : State} {m : MethodId} {args : Array Value} {below : List Frame} {meth : Method} {c : Code} {A : Nat → Prop} {D : va_G} {k : Nat → ClassId} {g : Nat → Nat} (C : Cx p s m args meth c D k "PromotionTillModel" b_Model_plan 5 none A) (N : Nat) (post : ((St)) → Prop) (K_67 : Int32 → Int32 → (St) → Prop) (hK_67 : ∀ (x1 : Int32) (x2 : Int32) (μ : (St)) (H : Heap) (locs : List Loc) (ls : Array Slot), va_P D CL (wModel k g μ) H → va_D A (wModel k g μ) → va_S A s.heap H locs → lv_has ls 5 [(0, .ref (g 0)), (1, .int x1), (2, .int x2)] → K_67 x1 x2 μ → W p l e rm_Model_plan s m args below meth c H locs 0 0 (MQ below (va_Qv post (fun (u : (St)) t => va_P D CL (wModel k g u) t.heap ∧ va_D A (wModel k g u)) A) args s rm_Model_plan.cells rm_Model_plan.slots A) (F0 m 67 ls [])) :
    ∀ (n : Nat) (x1 : Int32) (x2 : Int32) (x3 : Int32) (μ : (St)) (H : Heap) (locs : List Loc) (ls : Array Slot), va_P D CL (wModel k g μ) H → va_D A (wModel k g μ) → va_S A s.heap H locs → lv_has ls 5 [(0, .ref (g 0)), (1, .int x1), (2, .int x2), (3, .int x3)] → wp_Model_plan_80 N post K_67 n x1 x2 x3 μ → W p l e rm_Model_plan s m args below meth c H locs 0 0 (MQ below (va_Qv post (fun (u : (St)) t => va_P D CL (wModel k g u) t.heap ∧ va_D A (wModel k g u)) A) args s rm_Model_plan.cells rm_Model_plan.slots A) (F0 m 80 ls []) := by
  obtain ⟨hx, hb, hr, hlk, hml, hown, hts, hK, hA⟩ := id C
  intro n
  induction n with
  | zero =>
    intro x1 x2 x3 μ H locs ls hP hD hS hl h
    exact absurd h (by simp [wp_Model_plan_80])
  | succ n ih =>
    intro x1 x2 x3 μ H locs ls hP hD hS hl h
    rw [wp_Model_plan_80] at h
    refine lv_iload_n hx hb d_Model_plan_80 rfl (lv_at hl 3 rfl) ?_
    refine lv_bipush (v := 12) hx hb d_Model_plan_81 (by decide) ?_
    refine lv_icmp_ge (tgt := 101) hx hb d_Model_plan_83 (by decide) (fun c17 => ?_) (fun c17 => ?_)
    · replace h := h.1 c17
      exact t_Model_plan_101 C N post (K_67) hK_67 x1 x2 x3 μ _ _ _ hP hD hS (lv_sub hl [0, 1, 2, 3] rfl) h
    · replace h := h.2 c17
      refine lv_aload_n hx hb d_Model_plan_86 rfl (lv_at hl 0 rfl) ?_
      refine va_get (D := D) (ci := 8) (v := .ref (g 20)) (C := R_Model) (T := F_Model) (N := 40) hx hb hts in_Model hown hK hP 0 rfl rfl 24 (by decide) (hts _ kw_886) (fun _ h9 => h9) rfl d_Model_plan_87 ?_
      refine lv_iload_n hx hb d_Model_plan_90 rfl (lv_at hl 3 rfl) ?_
      obtain ⟨hi18, h⟩ := h
      refine va_iald hx hb hK hP 20 0 rfl rfl hi18 d_Model_plan_91 ?_
      refine lv_if_ne (tgt := 101) hx hb d_Model_plan_92 (by decide) (fun c19 => ?_) (fun c19 => ?_)
      · replace h := h.1 c19
        exact t_Model_plan_101 C N post (K_67) hK_67 x1 x2 x3 μ _ _ _ hP hD hS (lv_sub hl [0, 1, 2, 3] rfl) h
      · replace h := h.2 c19
        refine lv_iinc (v := x3 + 1) (lv' := [(3, .int (x3 + 1)), (0, .ref (g 0)), (1, .int x1), (2, .int x2)]) hx hb d_Model_plan_95 hl (k := 3) rfl rfl (by decide) rfl (fun ls hl => ?_)
        refine lv_goto (tgt := 80) hx hb d_Model_plan_98 (by decide) ?_
        exact ih x1 x2 (x3 + 1) μ _ _ _ hP hD hS (lv_sub hl [1, 2, 3, 0] rfl) h
set_option maxHeartbeats 4000000 in
set_option maxRecDepth 100000 in
theorem t_Model_plan_67 {p : Program} {l : Launch} {e : Env} {s : State} {m : MethodId} {args : Array Value} {below : List Frame} {meth : Method} {c : Code} {A : Nat → Prop} {D : va_G} {k : Nat → ClassId} {g : Nat → Nat} (C : Cx p s m args meth c D k "PromotionTillModel" b_Model_plan 5 none A) (N : Nat) (post : ((St)) → Prop) :
    ∀ (n : Nat) (x1 : Int32) (x2 : Int32) (μ : (St)) (H : Heap) (locs : List Loc) (ls : Array Slot), va_P D CL (wModel k g μ) H → va_D A (wModel k g μ) → va_S A s.heap H locs → lv_has ls 5 [(0, .ref (g 0)), (1, .int x1), (2, .int x2)] → wp_Model_plan_67 N post n x1 x2 μ → W p l e rm_Model_plan s m args below meth c H locs 0 0 (MQ below (va_Qv post (fun (u : (St)) t => va_P D CL (wModel k g u) t.heap ∧ va_D A (wModel k g u)) A) args s rm_Model_plan.cells rm_Model_plan.slots A) (F0 m 67 ls []) := by
  obtain ⟨hx, hb, hr, hlk, hml, hown, hts, hK, hA⟩ := id C
  intro n
  induction n with
  | zero =>
    intro x1 x2 μ H locs ls hP hD hS hl h
    exact absurd h (by simp [wp_Model_plan_67])
  | succ n ih =>
    intro x1 x2 μ H locs ls hP hD hS hl h
    rw [wp_Model_plan_67] at h
    refine lv_iload_n hx hb d_Model_plan_67 rfl (lv_at hl 2 rfl) ?_
    refine lv_bipush (v := 10) hx hb d_Model_plan_68 (by decide) ?_
    refine lv_icmp_ge (tgt := 188) hx hb d_Model_plan_70 (by decide) (fun c14 => ?_) (fun c14 => ?_)
    · replace h := h.1 c14
      exact ret_v (u := μ) (wf := (fun u : (St) => wModel k g u)) C hP hD hS (Nat.zero_le _) (Nat.zero_le _) h d_Model_plan_188
    · replace h := h.2 c14
      refine lv_aload_n hx hb d_Model_plan_73 rfl (lv_at hl 0 rfl) ?_
      refine lv_iload_n hx hb d_Model_plan_74 rfl (lv_at hl 1 rfl) ?_
      refine same_v C hP hD hS (runV (As := [.int x1]) (rest := []) C hP hD (m_Model_unfold N g μ x1  _ h H.size) kw_1057 kw_1059 kp_34 kw_12 kw_1060 hd_Model_unfold ⟨Nat.le_of_ble_eq_true rfl, Nat.le_of_ble_eq_true rfl⟩ ⟨Nat.le_of_ble_eq_true rfl, Nat.le_of_ble_eq_true rfl⟩ 0 rfl rfl rfl rfl hl.1 (Nat.le_of_ble_eq_true rfl) d_Model_plan_75) (fun u15 H locs h hP hD hS => ?_)
      replace hP : va_P D CL (wModel k g u15) H := hP
      replace hD : va_D A (wModel k g u15) := hD
      try dsimp only at h
      refine lv_iconst (v := 0) hx hb d_Model_plan_78 (by decide) ?_
      refine lv_istore_n (lv' := [(3, .int 0), (0, .ref (g 0)), (1, .int x1), (2, .int x2)]) hx hb d_Model_plan_79 rfl hl (by decide) rfl (fun ls hl => ?_)
      exact t_Model_plan_80 C N post (wp_Model_plan_67 N post n) ih N x1 x2 0 u15 _ _ _ hP hD hS (lv_sub hl [1, 2, 3, 0] rfl) h
set_option maxHeartbeats 4000000 in
set_option maxRecDepth 100000 in
theorem t_Model_plan_11 {p : Program} {l : Launch} {e : Env} {s : State} {m : MethodId} {args : Array Value} {below : List Frame} {meth : Method} {c : Code} {A : Nat → Prop} {D : va_G} {k : Nat → ClassId} {g : Nat → Nat} (C : Cx p s m args meth c D k "PromotionTillModel" b_Model_plan 5 none A) (N : Nat) (post : ((St)) → Prop) :
    ∀ (n : Nat) (x1 : Int32) (μ : (St)) (H : Heap) (locs : List Loc) (ls : Array Slot), va_P D CL (wModel k g μ) H → va_D A (wModel k g μ) → va_S A s.heap H locs → lv_has ls 5 [(0, .ref (g 0)), (1, .int x1)] → wp_Model_plan_11 N post n x1 μ → W p l e rm_Model_plan s m args below meth c H locs 0 0 (MQ below (va_Qv post (fun (u : (St)) t => va_P D CL (wModel k g u) t.heap ∧ va_D A (wModel k g u)) A) args s rm_Model_plan.cells rm_Model_plan.slots A) (F0 m 11 ls []) := by
  obtain ⟨hx, hb, hr, hlk, hml, hown, hts, hK, hA⟩ := id C
  intro n
  induction n with
  | zero =>
    intro x1 μ H locs ls hP hD hS hl h
    exact absurd h (by simp [wp_Model_plan_11])
  | succ n ih =>
    intro x1 μ H locs ls hP hD hS hl h
    rw [wp_Model_plan_11] at h
    refine lv_iload_n hx hb d_Model_plan_11 rfl (lv_at hl 1 rfl) ?_
    refine lv_aload_n hx hb d_Model_plan_12 rfl (lv_at hl 0 rfl) ?_
    refine va_get (D := D) (ci := 8) (v := .int (μ 22 0)) (C := R_Model) (T := F_Model) (N := 40) hx hb hts in_Model hown hK hP 0 rfl rfl 22 (by decide) (hts _ kw_884) (fun _ h9 => h9) rfl d_Model_plan_13 ?_
    refine lv_icmp_ge (tgt := 58) hx hb d_Model_plan_16 (by decide) (fun c4 => ?_) (fun c4 => ?_)
    · replace h := h.1 c4
      refine lv_aload_n hx hb d_Model_plan_58 rfl (lv_at hl 0 rfl) ?_
      refine va_get (D := D) (ci := 8) (v := .int (μ 29 0)) (C := R_Model) (T := F_Model) (N := 40) hx hb hts in_Model hown hK hP 0 rfl rfl 29 (by decide) (hts _ kw_891) (fun _ h9 => h9) rfl d_Model_plan_59 ?_
      refine lv_iconst (v := 1) hx hb d_Model_plan_62 (by decide) ?_
      refine lv_isub hx hb d_Model_plan_63 ?_
      refine lv_istore_n (lv' := [(1, .int ((μ 29 0) - 1)), (0, .ref (g 0))]) hx hb d_Model_plan_64 rfl hl (by decide) rfl (fun ls hl => ?_)
      refine lv_iconst (v := 0) hx hb d_Model_plan_65 (by decide) ?_
      refine lv_istore_n (lv' := [(2, .int 0), (1, .int ((μ 29 0) - 1)), (0, .ref (g 0))]) hx hb d_Model_plan_66 rfl hl (by decide) rfl (fun ls hl => ?_)
      exact t_Model_plan_67 C N post   N ((μ 29 0) - 1) 0 μ _ _ _ hP hD hS (lv_sub hl [2, 1, 0] rfl) h
    · replace h := h.2 c4
      refine lv_aload_n hx hb d_Model_plan_19 rfl (lv_at hl 0 rfl) ?_
      refine va_get (D := D) (ci := 8) (v := .ref (g 30)) (C := R_Model) (T := F_Model) (N := 40) hx hb hts in_Model hown hK hP 0 rfl rfl 37 (by decide) (hts _ kw_899) (fun _ h9 => h9) rfl d_Model_plan_20 ?_
      refine lv_iload_n hx hb d_Model_plan_23 rfl (lv_at hl 1 rfl) ?_
      refine lv_iconst (v := 0) hx hb d_Model_plan_24 (by decide) ?_
      obtain ⟨hi5, h⟩ := h
      refine va_zast hx hb hK hP hD hS 30 1 rfl rfl hi5 d_Model_plan_25 (fun H locs hP hD hS => ?_)
      obtain ⟨μ6, eμ6⟩ : ∃ z, z = s2 μ 37 (Int32.toNatClampNeg x1) (vp_nar .boolean 0) := ⟨_, rfl⟩
      replace hP : va_P D CL (wModel k g μ6) H := by rw [eμ6]; exact hP
      replace hD : va_D A (wModel k g μ6) := by rw [eμ6]; exact hD
      replace h := h μ6 eμ6
      refine lv_aload_n hx hb d_Model_plan_26 rfl (lv_at hl 0 rfl) ?_
      refine va_get (D := D) (ci := 8) (v := .ref (g 27)) (C := R_Model) (T := F_Model) (N := 40) hx hb hts in_Model hown hK hP 0 rfl rfl 34 (by decide) (hts _ kw_896) (fun _ h9 => h9) rfl d_Model_plan_27 ?_
      refine lv_iload_n hx hb d_Model_plan_30 rfl (lv_at hl 1 rfl) ?_
      refine lv_iconst (v := (-1)) hx hb d_Model_plan_31 (by decide) ?_
      obtain ⟨hi7, h⟩ := h
      refine va_iast hx hb hK hP hD hS 27 0 rfl rfl hi7 d_Model_plan_32 (fun H locs hP hD hS => ?_)
      obtain ⟨μ8, eμ8⟩ : ∃ z, z = s2 μ6 34 (Int32.toNatClampNeg x1) (-1) := ⟨_, rfl⟩
      replace hP : va_P D CL (wModel k g μ8) H := by rw [eμ8]; exact hP
      replace hD : va_D A (wModel k g μ8) := by rw [eμ8]; exact hD
      replace h := h μ8 eμ8
      refine lv_aload_n hx hb d_Model_plan_33 rfl (lv_at hl 0 rfl) ?_
      refine va_get (D := D) (ci := 8) (v := .ref (g 28)) (C := R_Model) (T := F_Model) (N := 40) hx hb hts in_Model hown hK hP 0 rfl rfl 35 (by decide) (hts _ kw_897) (fun _ h9 => h9) rfl d_Model_plan_34 ?_
      refine lv_iload_n hx hb d_Model_plan_37 rfl (lv_at hl 1 rfl) ?_
      refine lv_iconst (v := (-1)) hx hb d_Model_plan_38 (by decide) ?_
      obtain ⟨hi9, h⟩ := h
      refine va_iast hx hb hK hP hD hS 28 0 rfl rfl hi9 d_Model_plan_39 (fun H locs hP hD hS => ?_)
      obtain ⟨μ10, eμ10⟩ : ∃ z, z = s2 μ8 35 (Int32.toNatClampNeg x1) (-1) := ⟨_, rfl⟩
      replace hP : va_P D CL (wModel k g μ10) H := by rw [eμ10]; exact hP
      replace hD : va_D A (wModel k g μ10) := by rw [eμ10]; exact hD
      replace h := h μ10 eμ10
      refine lv_aload_n hx hb d_Model_plan_40 rfl (lv_at hl 0 rfl) ?_
      refine va_get (D := D) (ci := 8) (v := .ref (g 29)) (C := R_Model) (T := F_Model) (N := 40) hx hb hts in_Model hown hK hP 0 rfl rfl 36 (by decide) (hts _ kw_898) (fun _ h9 => h9) rfl d_Model_plan_41 ?_
      refine lv_iload_n hx hb d_Model_plan_44 rfl (lv_at hl 1 rfl) ?_
      refine lv_aload_n hx hb d_Model_plan_45 rfl (lv_at hl 0 rfl) ?_
      refine va_get (D := D) (ci := 8) (v := .ref (g 19)) (C := R_Model) (T := F_Model) (N := 40) hx hb hts in_Model hown hK hP 0 rfl rfl 21 (by decide) (hts _ kw_883) (fun _ h9 => h9) rfl d_Model_plan_46 ?_
      refine lv_iload_n hx hb d_Model_plan_49 rfl (lv_at hl 1 rfl) ?_
      obtain ⟨hi11, h⟩ := h
      refine va_iald hx hb hK hP 19 0 rfl rfl hi11 d_Model_plan_50 ?_
      obtain ⟨hi12, h⟩ := h
      refine va_iast hx hb hK hP hD hS 29 0 rfl rfl hi12 d_Model_plan_51 (fun H locs hP hD hS => ?_)
      obtain ⟨μ13, eμ13⟩ : ∃ z, z = s2 μ10 36 (Int32.toNatClampNeg x1) (μ10 21 (Int32.toNatClampNeg x1)) := ⟨_, rfl⟩
      replace hP : va_P D CL (wModel k g μ13) H := by rw [eμ13]; exact hP
      replace hD : va_D A (wModel k g μ13) := by rw [eμ13]; exact hD
      replace h := h μ13 eμ13
      refine lv_iinc (v := x1 + 1) (lv' := [(1, .int (x1 + 1)), (0, .ref (g 0))]) hx hb d_Model_plan_52 hl (k := 1) rfl rfl (by decide) rfl (fun ls hl => ?_)
      refine lv_goto (tgt := 11) hx hb d_Model_plan_55 (by decide) ?_
      exact ih (x1 + 1) μ13 _ _ _ hP hD hS (lv_sub hl [1, 0] rfl) h
set_option maxHeartbeats 4000000 in
set_option maxRecDepth 100000 in
theorem m_Model_plan {l : Launch} {D : va_G} {k : Nat → ClassId} (N : Nat) (g : Nat → Nat) (μ : St) (post : ((St)) → Prop) (h : wp_Model_plan N  μ  post) : Cv l D k y_Model_plan b_Model_plan 5 rm_Model_plan [.ref (g 0)] (wModel k g μ) (fun u : (St) => wModel k g u) post := by
  refine Cv.of (by decide) (Nat.le_of_ble_eq_true rfl) ?_
  intro p e s m below meth c A H locs ls C hP hD hS hl
  obtain ⟨hx, hb, hr, hlk, hml, hown, hts, hK, hA⟩ := id C
  replace hl : lv_has ls 5 [(0, .ref (g 0))] := hl
  unfold wp_Model_plan at h
  refine lv_aload_n hx hb d_Model_plan_0 rfl (lv_at hl 0 rfl) ?_
  refine same_v C hP hD hS (runV (As := []) (rest := []) C hP hD (m_Model_reckonAll N g μ   _ h H.size) kw_1049 kw_1051 kp_32 kw_12 kw_1052 hd_Model_reckonAll ⟨Nat.le_of_ble_eq_true rfl, Nat.le_of_ble_eq_true rfl⟩ ⟨Nat.le_of_ble_eq_true rfl, Nat.le_of_ble_eq_true rfl⟩ 0 rfl rfl rfl rfl hl.1 (Nat.le_of_ble_eq_true rfl) d_Model_plan_1) (fun u1 H locs h hP hD hS => ?_)
  replace hP : va_P D CL (wModel k g u1) H := hP
  replace hD : va_D A (wModel k g u1) := hD
  try dsimp only at h
  refine lv_aload_n hx hb d_Model_plan_4 rfl (lv_at hl 0 rfl) ?_
  refine lv_iconst (v := 0) hx hb d_Model_plan_5 (by decide) ?_
  refine va_put (D := D) (ci := 8) (v := .int 0) (ty := .int) (C := R_Model) (T := F_Model) (N := 40) hx hb hts in_Model t_Model tt_Model n_Model hown hK hP hD hS 0 rfl rfl 38 (by decide) (hts _ kw_900) (fun _ h9 => h9) rfl (by decide +kernel) rfl rfl (Nat.le_of_ble_eq_true rfl) d_Model_plan_6 (fun H locs hP hD hS => ?_)
  obtain ⟨μ3, eμ3⟩ : ∃ z, z = s2 u1 38 0 0 := ⟨_, rfl⟩
  replace hP : va_P D CL (wModel k g μ3) H := by rw [eμ3]; exact hP
  replace hD : va_D A (wModel k g μ3) := by rw [eμ3]; exact hD
  replace h := h μ3 eμ3
  refine lv_iconst (v := 0) hx hb d_Model_plan_9 (by decide) ?_
  refine lv_istore_n (lv' := [(1, .int 0), (0, .ref (g 0))]) hx hb d_Model_plan_10 rfl hl (by decide) rfl (fun ls hl => ?_)
  exact t_Model_plan_11 C N post   N 0 μ3 _ _ _ hP hD hS (lv_sub hl [1, 0] rfl) h
set_option maxHeartbeats 4000000 in
set_option maxRecDepth 100000 in
theorem t_Model_fits_112 {p : Program} {l : Launch} {e : Env} {s : State} {m : MethodId} {args : Array Value} {below : List Frame} {meth : Method} {c : Code} {A : Nat → Prop} {D : va_G} {k : Nat → ClassId} {g : Nat → Nat} (C : Cx p s m args meth c D k "PromotionTillModel" b_Model_fits 6 (some .boolean) A) (N : Nat) (μ : St) (post : Int32 → (Unit) → Prop) (K_69 : Int64 → Int32 → Prop) (hK_69 : ∀ (x1 : Int64) (x3 : Int32) (H : Heap) (locs : List Loc) (ls : Array Slot), va_P D CL (wModel k g μ) H → va_D A (wModel k g μ) → va_S A s.heap H locs → lv_has ls 6 [(0, .ref (g 0)), (1, .long x1), (3, .int x3)] → K_69 x1 x3 → W p l e rm_Model_fits s m args below meth c H locs 0 0 (MQ below (va_Qi post (fun (u : Unit) t => va_P D CL (wModel k g μ) t.heap ∧ va_D A (wModel k g μ)) A) args s rm_Model_fits.cells rm_Model_fits.slots A) (F0 m 69 ls [])) :
    ∀ (x1 : Int64) (x3 : Int32) (H : Heap) (locs : List Loc) (ls : Array Slot), va_P D CL (wModel k g μ) H → va_D A (wModel k g μ) → va_S A s.heap H locs → lv_has ls 6 [(0, .ref (g 0)), (1, .long x1), (3, .int x3)] → wp_Model_fits_112 N μ post K_69 x1 x3 → W p l e rm_Model_fits s m args below meth c H locs 0 0 (MQ below (va_Qi post (fun (u : Unit) t => va_P D CL (wModel k g μ) t.heap ∧ va_D A (wModel k g μ)) A) args s rm_Model_fits.cells rm_Model_fits.slots A) (F0 m 112 ls []) := by
  obtain ⟨hx, hb, hr, hlk, hml, hown, hts, hK, hA⟩ := id C
  intro x1 x3 H locs ls hP hD hS hl h
  unfold wp_Model_fits_112 at h
  refine lv_iinc (v := x3 + 1) (lv' := [(3, .int (x3 + 1)), (0, .ref (g 0)), (1, .long x1)]) hx hb d_Model_fits_112 hl (k := 2) rfl rfl (by decide) rfl (fun ls hl => ?_)
  refine lv_goto (tgt := 69) hx hb d_Model_fits_115 (by decide) ?_
  exact hK_69 x1 (x3 + 1) _ _ _ hP hD hS (lv_sub hl [1, 2, 0] rfl) h
set_option maxHeartbeats 4000000 in
set_option maxRecDepth 100000 in
theorem t_Model_fits_61 {p : Program} {l : Launch} {e : Env} {s : State} {m : MethodId} {args : Array Value} {below : List Frame} {meth : Method} {c : Code} {A : Nat → Prop} {D : va_G} {k : Nat → ClassId} {g : Nat → Nat} (C : Cx p s m args meth c D k "PromotionTillModel" b_Model_fits 6 (some .boolean) A) (N : Nat) (μ : St) (post : Int32 → (Unit) → Prop) (K_4 : Int64 → Int32 → Prop) (hK_4 : ∀ (x1 : Int64) (x3 : Int32) (H : Heap) (locs : List Loc) (ls : Array Slot), va_P D CL (wModel k g μ) H → va_D A (wModel k g μ) → va_S A s.heap H locs → lv_has ls 6 [(0, .ref (g 0)), (1, .long x1), (3, .int x3)] → K_4 x1 x3 → W p l e rm_Model_fits s m args below meth c H locs 0 0 (MQ below (va_Qi post (fun (u : Unit) t => va_P D CL (wModel k g μ) t.heap ∧ va_D A (wModel k g μ)) A) args s rm_Model_fits.cells rm_Model_fits.slots A) (F0 m 4 ls [])) :
    ∀ (x1 : Int64) (x3 : Int32) (H : Heap) (locs : List Loc) (ls : Array Slot), va_P D CL (wModel k g μ) H → va_D A (wModel k g μ) → va_S A s.heap H locs → lv_has ls 6 [(0, .ref (g 0)), (1, .long x1), (3, .int x3)] → wp_Model_fits_61 N μ post K_4 x1 x3 → W p l e rm_Model_fits s m args below meth c H locs 0 0 (MQ below (va_Qi post (fun (u : Unit) t => va_P D CL (wModel k g μ) t.heap ∧ va_D A (wModel k g μ)) A) args s rm_Model_fits.cells rm_Model_fits.slots A) (F0 m 61 ls []) := by
  obtain ⟨hx, hb, hr, hlk, hml, hown, hts, hK, hA⟩ := id C
  intro x1 x3 H locs ls hP hD hS hl h
  unfold wp_Model_fits_61 at h
  refine lv_iinc (v := x3 + 1) (lv' := [(3, .int (x3 + 1)), (0, .ref (g 0)), (1, .long x1)]) hx hb d_Model_fits_61 hl (k := 2) rfl rfl (by decide) rfl (fun ls hl => ?_)
  refine lv_goto (tgt := 4) hx hb d_Model_fits_64 (by decide) ?_
  exact hK_4 x1 (x3 + 1) _ _ _ hP hD hS (lv_sub hl [1, 2, 0] rfl) h
set_option maxHeartbeats 4000000 in
set_option maxRecDepth 100000 in
theorem t_Model_fits_39 {p : Program} {l : Launch} {e : Env} {s : State} {m : MethodId} {args : Array Value} {below : List Frame} {meth : Method} {c : Code} {A : Nat → Prop} {D : va_G} {k : Nat → ClassId} {g : Nat → Nat} (C : Cx p s m args meth c D k "PromotionTillModel" b_Model_fits 6 (some .boolean) A) (N : Nat) (μ : St) (post : Int32 → (Unit) → Prop) (K_16 : Int64 → Int32 → Int32 → Int32 → Prop) (hK_16 : ∀ (x1 : Int64) (x3 : Int32) (x4 : Int32) (x5 : Int32) (H : Heap) (locs : List Loc) (ls : Array Slot), va_P D CL (wModel k g μ) H → va_D A (wModel k g μ) → va_S A s.heap H locs → lv_has ls 6 [(0, .ref (g 0)), (1, .long x1), (3, .int x3), (4, .int x4), (5, .int x5)] → K_16 x1 x3 x4 x5 → W p l e rm_Model_fits s m args below meth c H locs 0 0 (MQ below (va_Qi post (fun (u : Unit) t => va_P D CL (wModel k g μ) t.heap ∧ va_D A (wModel k g μ)) A) args s rm_Model_fits.cells rm_Model_fits.slots A) (F0 m 16 ls [])) :
    ∀ (x1 : Int64) (x3 : Int32) (x4 : Int32) (x5 : Int32) (H : Heap) (locs : List Loc) (ls : Array Slot), va_P D CL (wModel k g μ) H → va_D A (wModel k g μ) → va_S A s.heap H locs → lv_has ls 6 [(0, .ref (g 0)), (1, .long x1), (3, .int x3), (4, .int x4), (5, .int x5)] → wp_Model_fits_39 N μ post K_16 x1 x3 x4 x5 → W p l e rm_Model_fits s m args below meth c H locs 0 0 (MQ below (va_Qi post (fun (u : Unit) t => va_P D CL (wModel k g μ) t.heap ∧ va_D A (wModel k g μ)) A) args s rm_Model_fits.cells rm_Model_fits.slots A) (F0 m 39 ls []) := by
  obtain ⟨hx, hb, hr, hlk, hml, hown, hts, hK, hA⟩ := id C
  intro x1 x3 x4 x5 H locs ls hP hD hS hl h
  unfold wp_Model_fits_39 at h
  refine lv_iinc (v := x5 + 1) (lv' := [(5, .int (x5 + 1)), (0, .ref (g 0)), (1, .long x1), (3, .int x3), (4, .int x4)]) hx hb d_Model_fits_39 hl (k := 4) rfl rfl (by decide) rfl (fun ls hl => ?_)
  refine lv_goto (tgt := 16) hx hb d_Model_fits_42 (by decide) ?_
  exact hK_16 x1 x3 x4 (x5 + 1) _ _ _ hP hD hS (lv_sub hl [1, 2, 3, 4, 0] rfl) h
set_option maxHeartbeats 4000000 in
set_option maxRecDepth 100000 in
theorem t_Model_fits_69 {p : Program} {l : Launch} {e : Env} {s : State} {m : MethodId} {args : Array Value} {below : List Frame} {meth : Method} {c : Code} {A : Nat → Prop} {D : va_G} {k : Nat → ClassId} {g : Nat → Nat} (C : Cx p s m args meth c D k "PromotionTillModel" b_Model_fits 6 (some .boolean) A) (N : Nat) (μ : St) (post : Int32 → (Unit) → Prop) :
    ∀ (n : Nat) (x1 : Int64) (x3 : Int32) (H : Heap) (locs : List Loc) (ls : Array Slot), va_P D CL (wModel k g μ) H → va_D A (wModel k g μ) → va_S A s.heap H locs → lv_has ls 6 [(0, .ref (g 0)), (1, .long x1), (3, .int x3)] → wp_Model_fits_69 N μ post n x1 x3 → W p l e rm_Model_fits s m args below meth c H locs 0 0 (MQ below (va_Qi post (fun (u : Unit) t => va_P D CL (wModel k g μ) t.heap ∧ va_D A (wModel k g μ)) A) args s rm_Model_fits.cells rm_Model_fits.slots A) (F0 m 69 ls []) := by
  obtain ⟨hx, hb, hr, hlk, hml, hown, hts, hK, hA⟩ := id C
  intro n
  induction n with
  | zero =>
    intro x1 x3 H locs ls hP hD hS hl h
    exact absurd h (by simp [wp_Model_fits_69])
  | succ n ih =>
    intro x1 x3 H locs ls hP hD hS hl h
    rw [wp_Model_fits_69] at h
    refine lv_iload_n hx hb d_Model_fits_69 rfl (lv_at hl 2 rfl) ?_
    refine lv_bipush (v := 6) hx hb d_Model_fits_70 (by decide) ?_
    refine lv_icmp_ge (tgt := 118) hx hb d_Model_fits_72 (by decide) (fun c8 => ?_) (fun c8 => ?_)
    · replace h := h.1 c8
      refine lv_lload_n hx hb d_Model_fits_118 rfl (lv_at hl 1 rfl) ?_
      refine lv_ldc2 (v := 3000) hx hb hown (hts _ kw_1036) d_Model_fits_119 ?_
      refine W.lcmp hx hb d_Model_fits_122 ?_
      refine lv_if_gt (tgt := 130) hx hb d_Model_fits_123 (by decide) (fun c9 => ?_) (fun c9 => ?_)
      · replace h := h.1 c9
        refine lv_iconst (v := 0) hx hb d_Model_fits_130 (by decide) ?_
        exact ret_z (u := ()) (wf := (fun u : Unit => wModel k g μ)) C rfl hP hD hS (Nat.zero_le _) (Nat.zero_le _) h d_Model_fits_131
      · replace h := h.2 c9
        refine lv_iconst (v := 1) hx hb d_Model_fits_126 (by decide) ?_
        refine lv_goto (tgt := 131) hx hb d_Model_fits_127 (by decide) ?_
        exact ret_z (u := ()) (wf := (fun u : Unit => wModel k g μ)) C rfl hP hD hS (Nat.zero_le _) (Nat.zero_le _) h d_Model_fits_131
    · replace h := h.2 c8
      refine lv_aload_n hx hb d_Model_fits_75 rfl (lv_at hl 0 rfl) ?_
      refine va_get (D := D) (ci := 8) (v := .ref (g 7)) (C := R_Model) (T := F_Model) (N := 40) hx hb hts in_Model hown hK hP 0 rfl rfl 6 (by decide) (hts _ kw_868) (fun _ h9 => h9) rfl d_Model_fits_76 ?_
      refine lv_bipush (v := 6) hx hb d_Model_fits_79 (by decide) ?_
      refine lv_aload_n hx hb d_Model_fits_81 rfl (lv_at hl 0 rfl) ?_
      refine va_get (D := D) (ci := 8) (v := .int (μ 23 0)) (C := R_Model) (T := F_Model) (N := 40) hx hb hts in_Model hown hK hP 0 rfl rfl 23 (by decide) (hts _ kw_885) (fun _ h9 => h9) rfl d_Model_fits_82 ?_
      refine lv_imul hx hb d_Model_fits_85 ?_
      refine lv_iload_n hx hb d_Model_fits_86 rfl (lv_at hl 2 rfl) ?_
      refine lv_iadd hx hb d_Model_fits_87 ?_
      obtain ⟨hi10, h⟩ := h
      refine va_zald hx hb hK hP 7 1 rfl rfl hi10 d_Model_fits_88 ?_
      refine lv_if_eq (tgt := 112) hx hb d_Model_fits_89 (by decide) (fun c11 => ?_) (fun c11 => ?_)
      · replace h := h.1 c11
        exact t_Model_fits_112 C N μ post (wp_Model_fits_69 N μ post n) ih x1 x3 _ _ _ hP hD hS (lv_sub hl [0, 1, 2] rfl) h
      · replace h := h.2 c11
        refine lv_lload_n hx hb d_Model_fits_92 rfl (lv_at hl 1 rfl) ?_
        refine lv_aload_n hx hb d_Model_fits_93 rfl (lv_at hl 0 rfl) ?_
        refine va_get (D := D) (ci := 8) (v := .ref (g 6)) (C := R_Model) (T := F_Model) (N := 40) hx hb hts in_Model hown hK hP 0 rfl rfl 5 (by decide) (hts _ kw_867) (fun _ h9 => h9) rfl d_Model_fits_94 ?_
        refine lv_bipush (v := 6) hx hb d_Model_fits_97 (by decide) ?_
        refine lv_aload_n hx hb d_Model_fits_99 rfl (lv_at hl 0 rfl) ?_
        refine va_get (D := D) (ci := 8) (v := .int (μ 23 0)) (C := R_Model) (T := F_Model) (N := 40) hx hb hts in_Model hown hK hP 0 rfl rfl 23 (by decide) (hts _ kw_885) (fun _ h9 => h9) rfl d_Model_fits_100 ?_
        refine lv_imul hx hb d_Model_fits_103 ?_
        refine lv_iload_n hx hb d_Model_fits_104 rfl (lv_at hl 2 rfl) ?_
        refine lv_iadd hx hb d_Model_fits_105 ?_
        obtain ⟨hi12, h⟩ := h
        refine va_iald hx hb hK hP 6 0 rfl rfl hi12 d_Model_fits_106 ?_
        refine lv_iconst (v := 1) hx hb d_Model_fits_107 (by decide) ?_
        refine lv_iadd hx hb d_Model_fits_108 ?_
        refine lv_i2l hx hb d_Model_fits_109 rfl ?_
        refine lv_lmul hx hb d_Model_fits_110 ?_
        refine lv_lstore_n (lv' := [(1, .long (x1 * (Int32.toInt64 ((μ 5 (Int32.toNatClampNeg ((6 * (μ 23 0)) + x3))) + 1)))), (0, .ref (g 0)), (3, .int x3)]) hx hb d_Model_fits_111 rfl hl (by decide) rfl (fun ls hl => ?_)
        exact t_Model_fits_112 C N μ post (wp_Model_fits_69 N μ post n) ih (x1 * (Int32.toInt64 ((μ 5 (Int32.toNatClampNeg ((6 * (μ 23 0)) + x3))) + 1))) x3 _ _ _ hP hD hS (lv_sub hl [1, 0, 2] rfl) h
set_option maxHeartbeats 4000000 in
set_option maxRecDepth 100000 in
theorem t_Model_fits_16 {p : Program} {l : Launch} {e : Env} {s : State} {m : MethodId} {args : Array Value} {below : List Frame} {meth : Method} {c : Code} {A : Nat → Prop} {D : va_G} {k : Nat → ClassId} {g : Nat → Nat} (C : Cx p s m args meth c D k "PromotionTillModel" b_Model_fits 6 (some .boolean) A) (N : Nat) (μ : St) (post : Int32 → (Unit) → Prop) (K_4 : Int64 → Int32 → Prop) (hK_4 : ∀ (x1 : Int64) (x3 : Int32) (H : Heap) (locs : List Loc) (ls : Array Slot), va_P D CL (wModel k g μ) H → va_D A (wModel k g μ) → va_S A s.heap H locs → lv_has ls 6 [(0, .ref (g 0)), (1, .long x1), (3, .int x3)] → K_4 x1 x3 → W p l e rm_Model_fits s m args below meth c H locs 0 0 (MQ below (va_Qi post (fun (u : Unit) t => va_P D CL (wModel k g μ) t.heap ∧ va_D A (wModel k g μ)) A) args s rm_Model_fits.cells rm_Model_fits.slots A) (F0 m 4 ls [])) :
    ∀ (n : Nat) (x1 : Int64) (x3 : Int32) (x4 : Int32) (x5 : Int32) (H : Heap) (locs : List Loc) (ls : Array Slot), va_P D CL (wModel k g μ) H → va_D A (wModel k g μ) → va_S A s.heap H locs → lv_has ls 6 [(0, .ref (g 0)), (1, .long x1), (3, .int x3), (4, .int x4), (5, .int x5)] → wp_Model_fits_16 N μ post K_4 n x1 x3 x4 x5 → W p l e rm_Model_fits s m args below meth c H locs 0 0 (MQ below (va_Qi post (fun (u : Unit) t => va_P D CL (wModel k g μ) t.heap ∧ va_D A (wModel k g μ)) A) args s rm_Model_fits.cells rm_Model_fits.slots A) (F0 m 16 ls []) := by
  obtain ⟨hx, hb, hr, hlk, hml, hown, hts, hK, hA⟩ := id C
  intro n
  induction n with
  | zero =>
    intro x1 x3 x4 x5 H locs ls hP hD hS hl h
    exact absurd h (by simp [wp_Model_fits_16])
  | succ n ih =>
    intro x1 x3 x4 x5 H locs ls hP hD hS hl h
    rw [wp_Model_fits_16] at h
    refine lv_iload hx hb d_Model_fits_16 (lv_at hl 4 rfl) ?_
    refine lv_aload_n hx hb d_Model_fits_18 rfl (lv_at hl 0 rfl) ?_
    refine va_get (D := D) (ci := 8) (v := .int (μ 22 0)) (C := R_Model) (T := F_Model) (N := 40) hx hb hts in_Model hown hK hP 0 rfl rfl 22 (by decide) (hts _ kw_884) (fun _ h9 => h9) rfl d_Model_fits_19 ?_
    refine lv_icmp_ge (tgt := 45) hx hb d_Model_fits_22 (by decide) (fun c2 => ?_) (fun c2 => ?_)
    · replace h := h.1 c2
      refine lv_aload_n hx hb d_Model_fits_45 rfl (lv_at hl 0 rfl) ?_
      refine lv_iload_n hx hb d_Model_fits_46 rfl (lv_at hl 2 rfl) ?_
      refine same_i C hP hD hS (runV (As := [.int x3]) (rest := []) C hP hD (m_Model_looksAt N g μ x3  _ h H.size) kw_1020 kw_1022 kp_27 kw_12 kw_1023 hd_Model_looksAt ⟨Nat.le_of_ble_eq_true rfl, Nat.le_of_ble_eq_true rfl⟩ ⟨Nat.le_of_ble_eq_true rfl, Nat.le_of_ble_eq_true rfl⟩ 0 rfl rfl rfl rfl hl.1 (Nat.le_of_ble_eq_true rfl) d_Model_fits_47) (fun r4 u3 H locs h hP hD hS => ?_)
      replace hP : va_P D CL (wModel k g μ) H := hP
      replace hD : va_D A (wModel k g μ) := hD
      try dsimp only at h
      refine lv_if_eq (tgt := 61) hx hb d_Model_fits_50 (by decide) (fun c5 => ?_) (fun c5 => ?_)
      · replace h := h.1 c5
        exact t_Model_fits_61 C N μ post (K_4) hK_4 x1 x3 _ _ _ hP hD hS (lv_sub hl [0, 1, 2] rfl) h
      · replace h := h.2 c5
        refine lv_lload_n hx hb d_Model_fits_53 rfl (lv_at hl 1 rfl) ?_
        refine lv_iload hx hb d_Model_fits_54 (lv_at hl 3 rfl) ?_
        refine lv_iconst (v := 1) hx hb d_Model_fits_56 (by decide) ?_
        refine lv_iadd hx hb d_Model_fits_57 ?_
        refine lv_i2l hx hb d_Model_fits_58 rfl ?_
        refine lv_lmul hx hb d_Model_fits_59 ?_
        refine lv_lstore_n (lv' := [(1, .long (x1 * (Int32.toInt64 (x4 + 1)))), (0, .ref (g 0)), (3, .int x3), (4, .int x4), (5, .int x5)]) hx hb d_Model_fits_60 rfl hl (by decide) rfl (fun ls hl => ?_)
        exact t_Model_fits_61 C N μ post (K_4) hK_4 (x1 * (Int32.toInt64 (x4 + 1))) x3 _ _ _ hP hD hS (lv_sub hl [1, 0, 2] rfl) h
    · replace h := h.2 c2
      refine lv_aload_n hx hb d_Model_fits_25 rfl (lv_at hl 0 rfl) ?_
      refine va_get (D := D) (ci := 8) (v := .ref (g 18)) (C := R_Model) (T := F_Model) (N := 40) hx hb hts in_Model hown hK hP 0 rfl rfl 20 (by decide) (hts _ kw_882) (fun _ h9 => h9) rfl d_Model_fits_26 ?_
      refine lv_iload hx hb d_Model_fits_29 (lv_at hl 4 rfl) ?_
      obtain ⟨hi6, h⟩ := h
      refine va_iald hx hb hK hP 18 0 rfl rfl hi6 d_Model_fits_31 ?_
      refine lv_iload_n hx hb d_Model_fits_32 rfl (lv_at hl 2 rfl) ?_
      refine lv_icmp_ne (tgt := 39) hx hb d_Model_fits_33 (by decide) (fun c7 => ?_) (fun c7 => ?_)
      · replace h := h.1 c7
        exact t_Model_fits_39 C N μ post (wp_Model_fits_16 N μ post K_4 n) ih x1 x3 x4 x5 _ _ _ hP hD hS (lv_sub hl [0, 1, 2, 3, 4] rfl) h
      · replace h := h.2 c7
        refine lv_iinc (v := x4 + 1) (lv' := [(4, .int (x4 + 1)), (0, .ref (g 0)), (1, .long x1), (3, .int x3), (5, .int x5)]) hx hb d_Model_fits_36 hl (k := 3) rfl rfl (by decide) rfl (fun ls hl => ?_)
        exact t_Model_fits_39 C N μ post (wp_Model_fits_16 N μ post K_4 n) ih x1 x3 (x4 + 1) x5 _ _ _ hP hD hS (lv_sub hl [1, 2, 3, 0, 4] rfl) h
set_option maxHeartbeats 4000000 in
set_option maxRecDepth 100000 in
theorem t_Model_fits_4 {p : Program} {l : Launch} {e : Env} {s : State} {m : MethodId} {args : Array Value} {below : List Frame} {meth : Method} {c : Code} {A : Nat → Prop} {D : va_G} {k : Nat → ClassId} {g : Nat → Nat} (C : Cx p s m args meth c D k "PromotionTillModel" b_Model_fits 6 (some .boolean) A) (N : Nat) (μ : St) (post : Int32 → (Unit) → Prop) :
    ∀ (n : Nat) (x1 : Int64) (x3 : Int32) (H : Heap) (locs : List Loc) (ls : Array Slot), va_P D CL (wModel k g μ) H → va_D A (wModel k g μ) → va_S A s.heap H locs → lv_has ls 6 [(0, .ref (g 0)), (1, .long x1), (3, .int x3)] → wp_Model_fits_4 N μ post n x1 x3 → W p l e rm_Model_fits s m args below meth c H locs 0 0 (MQ below (va_Qi post (fun (u : Unit) t => va_P D CL (wModel k g μ) t.heap ∧ va_D A (wModel k g μ)) A) args s rm_Model_fits.cells rm_Model_fits.slots A) (F0 m 4 ls []) := by
  obtain ⟨hx, hb, hr, hlk, hml, hown, hts, hK, hA⟩ := id C
  intro n
  induction n with
  | zero =>
    intro x1 x3 H locs ls hP hD hS hl h
    exact absurd h (by simp [wp_Model_fits_4])
  | succ n ih =>
    intro x1 x3 H locs ls hP hD hS hl h
    rw [wp_Model_fits_4] at h
    refine lv_iload_n hx hb d_Model_fits_4 rfl (lv_at hl 2 rfl) ?_
    refine lv_bipush (v := 12) hx hb d_Model_fits_5 (by decide) ?_
    refine lv_icmp_ge (tgt := 67) hx hb d_Model_fits_7 (by decide) (fun c1 => ?_) (fun c1 => ?_)
    · replace h := h.1 c1
      refine lv_iconst (v := 0) hx hb d_Model_fits_67 (by decide) ?_
      refine lv_istore_n (lv' := [(3, .int 0), (0, .ref (g 0)), (1, .long x1)]) hx hb d_Model_fits_68 rfl hl (by decide) rfl (fun ls hl => ?_)
      exact t_Model_fits_69 C N μ post   N x1 0 _ _ _ hP hD hS (lv_sub hl [1, 2, 0] rfl) h
    · replace h := h.2 c1
      refine lv_iconst (v := 0) hx hb d_Model_fits_10 (by decide) ?_
      refine lv_istore (lv' := [(4, .int 0), (0, .ref (g 0)), (1, .long x1), (3, .int x3)]) hx hb d_Model_fits_11 hl (by decide) rfl (fun ls hl => ?_)
      refine lv_iconst (v := 0) hx hb d_Model_fits_13 (by decide) ?_
      refine lv_istore (lv' := [(5, .int 0), (4, .int 0), (0, .ref (g 0)), (1, .long x1), (3, .int x3)]) hx hb d_Model_fits_14 hl (by decide) rfl (fun ls hl => ?_)
      exact t_Model_fits_16 C N μ post (wp_Model_fits_4 N μ post n) ih N x1 x3 0 0 _ _ _ hP hD hS (lv_sub hl [2, 3, 4, 1, 0] rfl) h
set_option maxHeartbeats 4000000 in
set_option maxRecDepth 100000 in
theorem m_Model_fits {l : Launch} {D : va_G} {k : Nat → ClassId} (N : Nat) (g : Nat → Nat) (μ : St) (post : Int32 → (Unit) → Prop) (h : wp_Model_fits N  μ  post) : Ci l D k y_Model_fits b_Model_fits 6 .boolean rm_Model_fits [.ref (g 0)] (wModel k g μ) (fun u : Unit => wModel k g μ) post := by
  refine Ci.of (by decide) (Nat.le_of_ble_eq_true rfl) ?_
  intro p e s m below meth c A H locs ls C hP hD hS hl
  obtain ⟨hx, hb, hr, hlk, hml, hown, hts, hK, hA⟩ := id C
  replace hl : lv_has ls 6 [(0, .ref (g 0))] := hl
  unfold wp_Model_fits at h
  refine lv_lconst (v := 1) hx hb d_Model_fits_0 (by decide) ?_
  refine lv_lstore_n (lv' := [(1, .long 1), (0, .ref (g 0))]) hx hb d_Model_fits_1 rfl hl (by decide) rfl (fun ls hl => ?_)
  refine lv_iconst (v := 0) hx hb d_Model_fits_2 (by decide) ?_
  refine lv_istore_n (lv' := [(3, .int 0), (1, .long 1), (0, .ref (g 0))]) hx hb d_Model_fits_3 rfl hl (by decide) rfl (fun ls hl => ?_)
  exact t_Model_fits_4 C N μ post   N 1 0 _ _ _ hP hD hS (lv_sub hl [2, 1, 0] rfl) h
set_option maxHeartbeats 4000000 in
set_option maxRecDepth 100000 in
theorem t_Model_scan_29 {p : Program} {l : Launch} {e : Env} {s : State} {m : MethodId} {args : Array Value} {below : List Frame} {meth : Method} {c : Code} {A : Nat → Prop} {D : va_G} {k : Nat → ClassId} {g : Nat → Nat} (C : Cx p s m args meth c D k "PromotionTillModel" b_Model_scan 2 (some .int) A) (N : Nat) (post : Int32 → ((St)) → Prop) :
    ∀ (x1 : Int32) (y0 : Int32) (μ : (St)) (H : Heap) (locs : List Loc) (ls : Array Slot), va_P D CL (wModel k g μ) H → va_D A (wModel k g μ) → va_S A s.heap H locs → lv_has ls 2 [(0, .ref (g 0)), (1, .int x1)] → wp_Model_scan_29 N post x1 y0 μ → W p l e rm_Model_scan s m args below meth c H locs 0 0 (MQ below (va_Qi post (fun (u : (St)) t => va_P D CL (wModel k g u) t.heap ∧ va_D A (wModel k g u)) A) args s rm_Model_scan.cells rm_Model_scan.slots A) (F0 m 29 ls [.int y0, .ref (g 0)]) := by
  obtain ⟨hx, hb, hr, hlk, hml, hown, hts, hK, hA⟩ := id C
  intro x1 y0 μ H locs ls hP hD hS hl h
  unfold wp_Model_scan_29 at h
  refine va_put (D := D) (ci := 8) (v := .int y0) (ty := .int) (C := R_Model) (T := F_Model) (N := 40) hx hb hts in_Model t_Model tt_Model n_Model hown hK hP hD hS 0 rfl rfl 39 (by decide) (hts _ kw_901) (fun _ h9 => h9) rfl (by decide +kernel) rfl rfl (Nat.le_of_ble_eq_true rfl) d_Model_scan_29 (fun H locs hP hD hS => ?_)
  obtain ⟨μ5, eμ5⟩ : ∃ z, z = s2 μ 39 0 y0 := ⟨_, rfl⟩
  replace hP : va_P D CL (wModel k g μ5) H := by rw [eμ5]; exact hP
  replace hD : va_D A (wModel k g μ5) := by rw [eμ5]; exact hD
  replace h := h μ5 eμ5
  refine lv_aload_n hx hb d_Model_scan_32 rfl (lv_at hl 0 rfl) ?_
  refine va_get (D := D) (ci := 8) (v := .int (μ5 39 0)) (C := R_Model) (T := F_Model) (N := 40) hx hb hts in_Model hown hK hP 0 rfl rfl 39 (by decide) (hts _ kw_901) (fun _ h9 => h9) rfl d_Model_scan_33 ?_
  refine lv_if_eq (tgt := 41) hx hb d_Model_scan_36 (by decide) (fun c6 => ?_) (fun c6 => ?_)
  · replace h := h.1 c6
    refine lv_aload_n hx hb d_Model_scan_41 rfl (lv_at hl 0 rfl) ?_
    refine va_get (D := D) (ci := 8) (v := .ref (g 9)) (C := R_Model) (T := F_Model) (N := 40) hx hb hts in_Model hown hK hP 0 rfl rfl 8 (by decide) (hts _ kw_870) (fun _ h9 => h9) rfl d_Model_scan_42 ?_
    refine lv_aload_n hx hb d_Model_scan_45 rfl (lv_at hl 0 rfl) ?_
    refine va_get (D := D) (ci := 8) (v := .int (μ5 9 0)) (C := R_Model) (T := F_Model) (N := 40) hx hb hts in_Model hown hK hP 0 rfl rfl 9 (by decide) (hts _ kw_871) (fun _ h9 => h9) rfl d_Model_scan_46 ?_
    refine lv_iload_n hx hb d_Model_scan_49 rfl (lv_at hl 1 rfl) ?_
    obtain ⟨hi7, h⟩ := h
    refine va_iast hx hb hK hP hD hS 9 0 rfl rfl hi7 d_Model_scan_50 (fun H locs hP hD hS => ?_)
    obtain ⟨μ8, eμ8⟩ : ∃ z, z = s2 μ5 8 (Int32.toNatClampNeg (μ5 9 0)) x1 := ⟨_, rfl⟩
    replace hP : va_P D CL (wModel k g μ8) H := by rw [eμ8]; exact hP
    replace hD : va_D A (wModel k g μ8) := by rw [eμ8]; exact hD
    replace h := h μ8 eμ8
    refine lv_aload_n hx hb d_Model_scan_51 rfl (lv_at hl 0 rfl) ?_
    refine lv_dup hx hb d_Model_scan_52 rfl ?_
    refine va_get (D := D) (ci := 8) (v := .int (μ8 9 0)) (C := R_Model) (T := F_Model) (N := 40) hx hb hts in_Model hown hK hP 0 rfl rfl 9 (by decide) (hts _ kw_871) (fun _ h9 => h9) rfl d_Model_scan_53 ?_
    refine lv_iconst (v := 1) hx hb d_Model_scan_56 (by decide) ?_
    refine lv_iadd hx hb d_Model_scan_57 ?_
    refine va_put (D := D) (ci := 8) (v := .int ((μ8 9 0) + 1)) (ty := .int) (C := R_Model) (T := F_Model) (N := 40) hx hb hts in_Model t_Model tt_Model n_Model hown hK hP hD hS 0 rfl rfl 9 (by decide) (hts _ kw_871) (fun _ h9 => h9) rfl (by decide +kernel) rfl rfl (Nat.le_of_ble_eq_true rfl) d_Model_scan_58 (fun H locs hP hD hS => ?_)
    obtain ⟨μ9, eμ9⟩ : ∃ z, z = s2 μ8 9 0 ((μ8 9 0) + 1) := ⟨_, rfl⟩
    replace hP : va_P D CL (wModel k g μ9) H := by rw [eμ9]; exact hP
    replace hD : va_D A (wModel k g μ9) := by rw [eμ9]; exact hD
    replace h := h μ9 eμ9
    refine lv_aload_n hx hb d_Model_scan_61 rfl (lv_at hl 0 rfl) ?_
    refine same_v C hP hD hS (runV (As := []) (rest := []) C hP hD (m_Model_takeBasket N g μ9   _ h H.size) kw_1012 kw_1014 kp_25 kw_12 kw_1015 hd_Model_takeBasket ⟨Nat.le_of_ble_eq_true rfl, Nat.le_of_ble_eq_true rfl⟩ ⟨Nat.le_of_ble_eq_true rfl, Nat.le_of_ble_eq_true rfl⟩ 0 rfl rfl rfl rfl hl.1 (Nat.le_of_ble_eq_true rfl) d_Model_scan_62) (fun u10 H locs h hP hD hS => ?_)
    replace hP : va_P D CL (wModel k g u10) H := hP
    replace hD : va_D A (wModel k g u10) := hD
    try dsimp only at h
    refine lv_aload_n hx hb d_Model_scan_65 rfl (lv_at hl 0 rfl) ?_
    refine same_i C hP hD hS (runV (As := []) (rest := []) C hP hD (m_Model_fits N g u10   _ h H.size) kw_1016 kw_1018 kp_26 kw_12 kw_1019 hd_Model_fits ⟨Nat.le_of_ble_eq_true rfl, Nat.le_of_ble_eq_true rfl⟩ ⟨Nat.le_of_ble_eq_true rfl, Nat.le_of_ble_eq_true rfl⟩ 0 rfl rfl rfl rfl hl.1 (Nat.le_of_ble_eq_true rfl) d_Model_scan_66) (fun r13 u12 H locs h hP hD hS => ?_)
    replace hP : va_P D CL (wModel k g u10) H := hP
    replace hD : va_D A (wModel k g u10) := hD
    try dsimp only at h
    refine lv_if_eq (tgt := 77) hx hb d_Model_scan_69 (by decide) (fun c14 => ?_) (fun c14 => ?_)
    · replace h := h.1 c14
      refine lv_aload_n hx hb d_Model_scan_77 rfl (lv_at hl 0 rfl) ?_
      refine lv_dup hx hb d_Model_scan_78 rfl ?_
      refine va_get (D := D) (ci := 8) (v := .int (u10 9 0)) (C := R_Model) (T := F_Model) (N := 40) hx hb hts in_Model hown hK hP 0 rfl rfl 9 (by decide) (hts _ kw_871) (fun _ h9 => h9) rfl d_Model_scan_79 ?_
      refine lv_iconst (v := 1) hx hb d_Model_scan_82 (by decide) ?_
      refine lv_isub hx hb d_Model_scan_83 ?_
      refine va_put (D := D) (ci := 8) (v := .int ((u10 9 0) - 1)) (ty := .int) (C := R_Model) (T := F_Model) (N := 40) hx hb hts in_Model t_Model tt_Model n_Model hown hK hP hD hS 0 rfl rfl 9 (by decide) (hts _ kw_871) (fun _ h9 => h9) rfl (by decide +kernel) rfl rfl (Nat.le_of_ble_eq_true rfl) d_Model_scan_84 (fun H locs hP hD hS => ?_)
      obtain ⟨μ15, eμ15⟩ : ∃ z, z = s2 u10 9 0 ((u10 9 0) - 1) := ⟨_, rfl⟩
      replace hP : va_P D CL (wModel k g μ15) H := by rw [eμ15]; exact hP
      replace hD : va_D A (wModel k g μ15) := by rw [eμ15]; exact hD
      replace h := h μ15 eμ15
      refine lv_aload_n hx hb d_Model_scan_87 rfl (lv_at hl 0 rfl) ?_
      refine lv_iconst (v := 2) hx hb d_Model_scan_88 (by decide) ?_
      refine va_put (D := D) (ci := 8) (v := .int 2) (ty := .int) (C := R_Model) (T := F_Model) (N := 40) hx hb hts in_Model t_Model tt_Model n_Model hown hK hP hD hS 0 rfl rfl 39 (by decide) (hts _ kw_901) (fun _ h9 => h9) rfl (by decide +kernel) rfl rfl (Nat.le_of_ble_eq_true rfl) d_Model_scan_89 (fun H locs hP hD hS => ?_)
      obtain ⟨μ16, eμ16⟩ : ∃ z, z = s2 μ15 39 0 2 := ⟨_, rfl⟩
      replace hP : va_P D CL (wModel k g μ16) H := by rw [eμ16]; exact hP
      replace hD : va_D A (wModel k g μ16) := by rw [eμ16]; exact hD
      replace h := h μ16 eμ16
      refine lv_iconst (v := 0) hx hb d_Model_scan_92 (by decide) ?_
      exact ret_i (u := μ16) (wf := (fun u : (St) => wModel k g u)) C hP hD hS (Nat.zero_le _) (Nat.zero_le _) h d_Model_scan_93
    · replace h := h.2 c14
      refine lv_aload_n hx hb d_Model_scan_72 rfl (lv_at hl 0 rfl) ?_
      refine va_get (D := D) (ci := 8) (v := .int (u10 9 0)) (C := R_Model) (T := F_Model) (N := 40) hx hb hts in_Model hown hK hP 0 rfl rfl 9 (by decide) (hts _ kw_871) (fun _ h9 => h9) rfl d_Model_scan_73 ?_
      exact ret_i (u := u10) (wf := (fun u : (St) => wModel k g u)) C hP hD hS (Nat.zero_le _) (Nat.zero_le _) h d_Model_scan_76
  · replace h := h.2 c6
    refine lv_iconst (v := 0) hx hb d_Model_scan_39 (by decide) ?_
    exact ret_i (u := μ5) (wf := (fun u : (St) => wModel k g u)) C hP hD hS (Nat.zero_le _) (Nat.zero_le _) h d_Model_scan_40
set_option maxHeartbeats 4000000 in
set_option maxRecDepth 100000 in
theorem m_Model_scan {l : Launch} {D : va_G} {k : Nat → ClassId} (N : Nat) (g : Nat → Nat) (μ : St) (x1 : Int32) (post : Int32 → ((St)) → Prop) (h : wp_Model_scan N  μ x1 post) : Ci l D k y_Model_scan b_Model_scan 2 .int rm_Model_scan [.ref (g 0), .int x1] (wModel k g μ) (fun u : (St) => wModel k g u) post := by
  refine Ci.of (by decide) (Nat.le_of_ble_eq_true rfl) ?_
  intro p e s m below meth c A H locs ls C hP hD hS hl
  obtain ⟨hx, hb, hr, hlk, hml, hown, hts, hK, hA⟩ := id C
  replace hl : lv_has ls 2 [(0, .ref (g 0)), (1, .int x1)] := hl
  unfold wp_Model_scan at h
  refine lv_aload_n hx hb d_Model_scan_0 rfl (lv_at hl 0 rfl) ?_
  refine lv_iload_n hx hb d_Model_scan_1 rfl (lv_at hl 1 rfl) ?_
  refine lv_iconst (v := 0) hx hb d_Model_scan_2 (by decide) ?_
  refine lv_bipush (v := 11) hx hb d_Model_scan_3 (by decide) ?_
  refine none_i C hP hD hS (runS (As := [.int x1, .int 0, .int 11]) (rest := [.ref (g 0)]) C nilP nilD (m_Model_within N   x1 0 11  _ h H.size) kw_991 kw_992 kw_12 kw_993 (hd_Model_within).2 ⟨Nat.le_of_ble_eq_true rfl, Nat.le_of_ble_eq_true rfl⟩ ⟨Nat.le_of_ble_eq_true rfl, Nat.le_of_ble_eq_true rfl⟩ rfl hl.1 (Nat.le_of_ble_eq_true rfl) d_Model_scan_5) (fun r2 u1 H locs h hP hD hS => ?_)
  try dsimp only at h
  refine lv_if_ne (tgt := 15) hx hb d_Model_scan_8 (by decide) (fun c3 => ?_) (fun c3 => ?_)
  · replace h := h.1 c3
    refine lv_aload_n hx hb d_Model_scan_15 rfl (lv_at hl 0 rfl) ?_
    refine va_get (D := D) (ci := 8) (v := .int (μ 9 0)) (C := R_Model) (T := F_Model) (N := 40) hx hb hts in_Model hown hK hP 0 rfl rfl 9 (by decide) (hts _ kw_871) (fun _ h9 => h9) rfl d_Model_scan_16 ?_
    refine lv_bipush (v := 10) hx hb d_Model_scan_19 (by decide) ?_
    refine lv_icmp_ne (tgt := 28) hx hb d_Model_scan_21 (by decide) (fun c4 => ?_) (fun c4 => ?_)
    · replace h := h.1 c4
      refine lv_iconst (v := 0) hx hb d_Model_scan_28 (by decide) ?_
      exact t_Model_scan_29 C N post x1 0 μ _ _ _ hP hD hS (lv_sub hl [0, 1] rfl) h
    · replace h := h.2 c4
      refine lv_iconst (v := 2) hx hb d_Model_scan_24 (by decide) ?_
      refine lv_goto (tgt := 29) hx hb d_Model_scan_25 (by decide) ?_
      exact t_Model_scan_29 C N post x1 2 μ _ _ _ hP hD hS (lv_sub hl [0, 1] rfl) h
  · replace h := h.2 c3
    refine lv_iconst (v := 1) hx hb d_Model_scan_11 (by decide) ?_
    refine lv_goto (tgt := 29) hx hb d_Model_scan_12 (by decide) ?_
    exact t_Model_scan_29 C N post x1 1 μ _ _ _ hP hD hS (lv_sub hl [0, 1] rfl) h
set_option maxHeartbeats 4000000 in
set_option maxRecDepth 100000 in
theorem t_Model_unscan_51 {p : Program} {l : Launch} {e : Env} {s : State} {m : MethodId} {args : Array Value} {below : List Frame} {meth : Method} {c : Code} {A : Nat → Prop} {D : va_G} {k : Nat → ClassId} {g : Nat → Nat} (C : Cx p s m args meth c D k "PromotionTillModel" b_Model_unscan 4 (some .int) A) (N : Nat) (post : Int32 → ((St)) → Prop) :
    ∀ (n : Nat) (x2 : Int32) (x3 : Int32) (μ : (St)) (H : Heap) (locs : List Loc) (ls : Array Slot), va_P D CL (wModel k g μ) H → va_D A (wModel k g μ) → va_S A s.heap H locs → lv_has ls 4 [(0, .ref (g 0)), (2, .int x2), (3, .int x3)] → wp_Model_unscan_51 N post n x2 x3 μ → W p l e rm_Model_unscan s m args below meth c H locs 0 0 (MQ below (va_Qi post (fun (u : (St)) t => va_P D CL (wModel k g u) t.heap ∧ va_D A (wModel k g u)) A) args s rm_Model_unscan.cells rm_Model_unscan.slots A) (F0 m 51 ls []) := by
  obtain ⟨hx, hb, hr, hlk, hml, hown, hts, hK, hA⟩ := id C
  intro n
  induction n with
  | zero =>
    intro x2 x3 μ H locs ls hP hD hS hl h
    exact absurd h (by simp [wp_Model_unscan_51])
  | succ n ih =>
    intro x2 x3 μ H locs ls hP hD hS hl h
    rw [wp_Model_unscan_51] at h
    refine lv_iload_n hx hb d_Model_unscan_51 rfl (lv_at hl 2 rfl) ?_
    refine lv_aload_n hx hb d_Model_unscan_52 rfl (lv_at hl 0 rfl) ?_
    refine va_get (D := D) (ci := 8) (v := .int (μ 9 0)) (C := R_Model) (T := F_Model) (N := 40) hx hb hts in_Model hown hK hP 0 rfl rfl 9 (by decide) (hts _ kw_871) (fun _ h9 => h9) rfl d_Model_unscan_53 ?_
    refine lv_icmp_ge (tgt := 79) hx hb d_Model_unscan_56 (by decide) (fun c8 => ?_) (fun c8 => ?_)
    · replace h := h.1 c8
      refine lv_iload_n hx hb d_Model_unscan_79 rfl (lv_at hl 1 rfl) ?_
      exact ret_i (u := μ) (wf := (fun u : (St) => wModel k g u)) C hP hD hS (Nat.zero_le _) (Nat.zero_le _) h d_Model_unscan_80
    · replace h := h.2 c8
      refine lv_aload_n hx hb d_Model_unscan_59 rfl (lv_at hl 0 rfl) ?_
      refine va_get (D := D) (ci := 8) (v := .ref (g 9)) (C := R_Model) (T := F_Model) (N := 40) hx hb hts in_Model hown hK hP 0 rfl rfl 8 (by decide) (hts _ kw_870) (fun _ h9 => h9) rfl d_Model_unscan_60 ?_
      refine lv_iload_n hx hb d_Model_unscan_63 rfl (lv_at hl 2 rfl) ?_
      refine lv_aload_n hx hb d_Model_unscan_64 rfl (lv_at hl 0 rfl) ?_
      refine va_get (D := D) (ci := 8) (v := .ref (g 9)) (C := R_Model) (T := F_Model) (N := 40) hx hb hts in_Model hown hK hP 0 rfl rfl 8 (by decide) (hts _ kw_870) (fun _ h9 => h9) rfl d_Model_unscan_65 ?_
      refine lv_iload_n hx hb d_Model_unscan_68 rfl (lv_at hl 2 rfl) ?_
      refine lv_iconst (v := 1) hx hb d_Model_unscan_69 (by decide) ?_
      refine lv_iadd hx hb d_Model_unscan_70 ?_
      obtain ⟨hi9, h⟩ := h
      refine va_iald hx hb hK hP 9 0 rfl rfl hi9 d_Model_unscan_71 ?_
      obtain ⟨hi10, h⟩ := h
      refine va_iast hx hb hK hP hD hS 9 0 rfl rfl hi10 d_Model_unscan_72 (fun H locs hP hD hS => ?_)
      obtain ⟨μ11, eμ11⟩ : ∃ z, z = s2 μ 8 (Int32.toNatClampNeg x3) (μ 8 (Int32.toNatClampNeg (x3 + 1))) := ⟨_, rfl⟩
      replace hP : va_P D CL (wModel k g μ11) H := by rw [eμ11]; exact hP
      replace hD : va_D A (wModel k g μ11) := by rw [eμ11]; exact hD
      replace h := h μ11 eμ11
      refine lv_iinc (v := x3 + 1) (lv' := [(3, .int (x3 + 1)), (0, .ref (g 0)), (2, .int x2)]) hx hb d_Model_unscan_73 hl (k := 2) rfl rfl (by decide) rfl (fun ls hl => ?_)
      refine lv_goto (tgt := 51) hx hb d_Model_unscan_76 (by decide) ?_
      exact ih x2 (x3 + 1) μ11 _ _ _ hP hD hS (lv_sub hl [1, 2, 0] rfl) h
set_option maxHeartbeats 4000000 in
set_option maxRecDepth 100000 in
theorem t_Model_unscan_20 {p : Program} {l : Launch} {e : Env} {s : State} {m : MethodId} {args : Array Value} {below : List Frame} {meth : Method} {c : Code} {A : Nat → Prop} {D : va_G} {k : Nat → ClassId} {g : Nat → Nat} (C : Cx p s m args meth c D k "PromotionTillModel" b_Model_unscan 4 (some .int) A) (N : Nat) (post : Int32 → ((St)) → Prop) :
    ∀ (x1 : Int32) (y0 : Int32) (μ : (St)) (H : Heap) (locs : List Loc) (ls : Array Slot), va_P D CL (wModel k g μ) H → va_D A (wModel k g μ) → va_S A s.heap H locs → lv_has ls 4 [(0, .ref (g 0)), (1, .int x1)] → wp_Model_unscan_20 N post x1 y0 μ → W p l e rm_Model_unscan s m args below meth c H locs 0 0 (MQ below (va_Qi post (fun (u : (St)) t => va_P D CL (wModel k g u) t.heap ∧ va_D A (wModel k g u)) A) args s rm_Model_unscan.cells rm_Model_unscan.slots A) (F0 m 20 ls [.int y0, .ref (g 0)]) := by
  obtain ⟨hx, hb, hr, hlk, hml, hown, hts, hK, hA⟩ := id C
  intro x1 y0 μ H locs ls hP hD hS hl h
  unfold wp_Model_unscan_20 at h
  refine va_put (D := D) (ci := 8) (v := .int y0) (ty := .int) (C := R_Model) (T := F_Model) (N := 40) hx hb hts in_Model t_Model tt_Model n_Model hown hK hP hD hS 0 rfl rfl 39 (by decide) (hts _ kw_901) (fun _ h9 => h9) rfl (by decide +kernel) rfl rfl (Nat.le_of_ble_eq_true rfl) d_Model_unscan_20 (fun H locs hP hD hS => ?_)
  obtain ⟨μ4, eμ4⟩ : ∃ z, z = s2 μ 39 0 y0 := ⟨_, rfl⟩
  replace hP : va_P D CL (wModel k g μ4) H := by rw [eμ4]; exact hP
  replace hD : va_D A (wModel k g μ4) := by rw [eμ4]; exact hD
  replace h := h μ4 eμ4
  refine lv_aload_n hx hb d_Model_unscan_23 rfl (lv_at hl 0 rfl) ?_
  refine va_get (D := D) (ci := 8) (v := .int (μ4 39 0)) (C := R_Model) (T := F_Model) (N := 40) hx hb hts in_Model hown hK hP 0 rfl rfl 39 (by decide) (hts _ kw_901) (fun _ h9 => h9) rfl d_Model_unscan_24 ?_
  refine lv_if_eq (tgt := 32) hx hb d_Model_unscan_27 (by decide) (fun c5 => ?_) (fun c5 => ?_)
  · replace h := h.1 c5
    refine lv_aload_n hx hb d_Model_unscan_32 rfl (lv_at hl 0 rfl) ?_
    refine va_get (D := D) (ci := 8) (v := .ref (g 9)) (C := R_Model) (T := F_Model) (N := 40) hx hb hts in_Model hown hK hP 0 rfl rfl 8 (by decide) (hts _ kw_870) (fun _ h9 => h9) rfl d_Model_unscan_33 ?_
    refine lv_iload_n hx hb d_Model_unscan_36 rfl (lv_at hl 1 rfl) ?_
    obtain ⟨hi6, h⟩ := h
    refine va_iald hx hb hK hP 9 0 rfl rfl hi6 d_Model_unscan_37 ?_
    refine lv_istore_n (lv' := [(2, .int (μ4 8 (Int32.toNatClampNeg x1))), (0, .ref (g 0)), (1, .int x1)]) hx hb d_Model_unscan_38 rfl hl (by decide) rfl (fun ls hl => ?_)
    refine lv_aload_n hx hb d_Model_unscan_39 rfl (lv_at hl 1 rfl) ?_
    refine lv_dup hx hb d_Model_unscan_40 rfl ?_
    refine va_get (D := D) (ci := 8) (v := .int (μ4 9 0)) (C := R_Model) (T := F_Model) (N := 40) hx hb hts in_Model hown hK hP 0 rfl rfl 9 (by decide) (hts _ kw_871) (fun _ h9 => h9) rfl d_Model_unscan_41 ?_
    refine lv_iconst (v := 1) hx hb d_Model_unscan_44 (by decide) ?_
    refine lv_isub hx hb d_Model_unscan_45 ?_
    refine va_put (D := D) (ci := 8) (v := .int ((μ4 9 0) - 1)) (ty := .int) (C := R_Model) (T := F_Model) (N := 40) hx hb hts in_Model t_Model tt_Model n_Model hown hK hP hD hS 0 rfl rfl 9 (by decide) (hts _ kw_871) (fun _ h9 => h9) rfl (by decide +kernel) rfl rfl (Nat.le_of_ble_eq_true rfl) d_Model_unscan_46 (fun H locs hP hD hS => ?_)
    obtain ⟨μ7, eμ7⟩ : ∃ z, z = s2 μ4 9 0 ((μ4 9 0) - 1) := ⟨_, rfl⟩
    replace hP : va_P D CL (wModel k g μ7) H := by rw [eμ7]; exact hP
    replace hD : va_D A (wModel k g μ7) := by rw [eμ7]; exact hD
    replace h := h μ7 eμ7
    refine lv_iload_n hx hb d_Model_unscan_49 rfl (lv_at hl 2 rfl) ?_
    refine lv_istore_n (lv' := [(3, .int x1), (2, .int (μ4 8 (Int32.toNatClampNeg x1))), (0, .ref (g 0)), (1, .int x1)]) hx hb d_Model_unscan_50 rfl hl (by decide) rfl (fun ls hl => ?_)
    exact t_Model_unscan_51 C N post   N (μ4 8 (Int32.toNatClampNeg x1)) x1 μ7 _ _ _ hP hD hS (lv_sub hl [2, 1, 0] rfl) h
  · replace h := h.2 c5
    refine lv_iconst (v := 0) hx hb d_Model_unscan_30 (by decide) ?_
    exact ret_i (u := μ4) (wf := (fun u : (St) => wModel k g u)) C hP hD hS (Nat.zero_le _) (Nat.zero_le _) h d_Model_unscan_31
set_option maxHeartbeats 4000000 in
set_option maxRecDepth 100000 in
theorem m_Model_unscan {l : Launch} {D : va_G} {k : Nat → ClassId} (N : Nat) (g : Nat → Nat) (μ : St) (x1 : Int32) (post : Int32 → ((St)) → Prop) (h : wp_Model_unscan N  μ x1 post) : Ci l D k y_Model_unscan b_Model_unscan 4 .int rm_Model_unscan [.ref (g 0), .int x1] (wModel k g μ) (fun u : (St) => wModel k g u) post := by
  refine Ci.of (by decide) (Nat.le_of_ble_eq_true rfl) ?_
  intro p e s m below meth c A H locs ls C hP hD hS hl
  obtain ⟨hx, hb, hr, hlk, hml, hown, hts, hK, hA⟩ := id C
  replace hl : lv_has ls 4 [(0, .ref (g 0)), (1, .int x1)] := hl
  unfold wp_Model_unscan at h
  refine lv_aload_n hx hb d_Model_unscan_0 rfl (lv_at hl 0 rfl) ?_
  refine lv_iload_n hx hb d_Model_unscan_1 rfl (lv_at hl 1 rfl) ?_
  refine lv_iconst (v := 0) hx hb d_Model_unscan_2 (by decide) ?_
  refine lv_aload_n hx hb d_Model_unscan_3 rfl (lv_at hl 0 rfl) ?_
  refine va_get (D := D) (ci := 8) (v := .int (μ 9 0)) (C := R_Model) (T := F_Model) (N := 40) hx hb hts in_Model hown hK hP 0 rfl rfl 9 (by decide) (hts _ kw_871) (fun _ h9 => h9) rfl d_Model_unscan_4 ?_
  refine lv_iconst (v := 1) hx hb d_Model_unscan_7 (by decide) ?_
  refine lv_isub hx hb d_Model_unscan_8 ?_
  refine none_i C hP hD hS (runS (As := [.int x1, .int 0, .int ((μ 9 0) - 1)]) (rest := [.ref (g 0)]) C nilP nilD (m_Model_within N   x1 0 ((μ 9 0) - 1)  _ h H.size) kw_991 kw_992 kw_12 kw_993 (hd_Model_within).2 ⟨Nat.le_of_ble_eq_true rfl, Nat.le_of_ble_eq_true rfl⟩ ⟨Nat.le_of_ble_eq_true rfl, Nat.le_of_ble_eq_true rfl⟩ rfl hl.1 (Nat.le_of_ble_eq_true rfl) d_Model_unscan_9) (fun r2 u1 H locs h hP hD hS => ?_)
  try dsimp only at h
  refine lv_if_eq (tgt := 19) hx hb d_Model_unscan_12 (by decide) (fun c3 => ?_) (fun c3 => ?_)
  · replace h := h.1 c3
    refine lv_iconst (v := 1) hx hb d_Model_unscan_19 (by decide) ?_
    exact t_Model_unscan_20 C N post x1 1 μ _ _ _ hP hD hS (lv_sub hl [0, 1] rfl) h
  · replace h := h.2 c3
    refine lv_iconst (v := 0) hx hb d_Model_unscan_15 (by decide) ?_
    refine lv_goto (tgt := 20) hx hb d_Model_unscan_16 (by decide) ?_
    exact t_Model_unscan_20 C N post x1 0 μ _ _ _ hP hD hS (lv_sub hl [0, 1] rfl) h
set_option maxHeartbeats 4000000 in
set_option maxRecDepth 100000 in
theorem t_Model_total_44 {p : Program} {l : Launch} {e : Env} {s : State} {m : MethodId} {args : Array Value} {below : List Frame} {meth : Method} {c : Code} {A : Nat → Prop} {D : va_G} {k : Nat → ClassId} {g : Nat → Nat} (C : Cx p s m args meth c D k "PromotionTillModel" b_Model_total 4 (some .int) A) (N : Nat) (post : Int32 → ((St)) → Prop) :
    ∀ (n : Nat) (x1 : Int32) (x2 : Int32) (x3 : Int32) (μ : (St)) (H : Heap) (locs : List Loc) (ls : Array Slot), va_P D CL (wModel k g μ) H → va_D A (wModel k g μ) → va_S A s.heap H locs → lv_has ls 4 [(0, .ref (g 0)), (1, .int x1), (2, .int x2), (3, .int x3)] → wp_Model_total_44 N post n x1 x2 x3 μ → W p l e rm_Model_total s m args below meth c H locs 0 0 (MQ below (va_Qi post (fun (u : (St)) t => va_P D CL (wModel k g u) t.heap ∧ va_D A (wModel k g u)) A) args s rm_Model_total.cells rm_Model_total.slots A) (F0 m 44 ls []) := by
  obtain ⟨hx, hb, hr, hlk, hml, hown, hts, hK, hA⟩ := id C
  intro n
  induction n with
  | zero =>
    intro x1 x2 x3 μ H locs ls hP hD hS hl h
    exact absurd h (by simp [wp_Model_total_44])
  | succ n ih =>
    intro x1 x2 x3 μ H locs ls hP hD hS hl h
    rw [wp_Model_total_44] at h
    refine lv_iload_n hx hb d_Model_total_44 rfl (lv_at hl 3 rfl) ?_
    refine lv_aload_n hx hb d_Model_total_45 rfl (lv_at hl 0 rfl) ?_
    refine va_get (D := D) (ci := 8) (v := .int (μ 22 0)) (C := R_Model) (T := F_Model) (N := 40) hx hb hts in_Model hown hK hP 0 rfl rfl 22 (by decide) (hts _ kw_884) (fun _ h9 => h9) rfl d_Model_total_46 ?_
    refine lv_icmp_ge (tgt := 67) hx hb d_Model_total_49 (by decide) (fun c11 => ?_) (fun c11 => ?_)
    · replace h := h.1 c11
      refine lv_iload_n hx hb d_Model_total_67 rfl (lv_at hl 1 rfl) ?_
      refine lv_iconst (v := 1) hx hb d_Model_total_68 (by decide) ?_
      refine lv_icmp_ne (tgt := 74) hx hb d_Model_total_69 (by decide) (fun c12 => ?_) (fun c12 => ?_)
      · replace h := h.1 c12
        refine lv_aload_n hx hb d_Model_total_74 rfl (lv_at hl 0 rfl) ?_
        refine same_v C hP hD hS (runV (As := []) (rest := []) C hP hD (m_Model_plan N g μ   _ h H.size) kw_1089 kw_1091 kp_42 kw_12 kw_1092 hd_Model_plan ⟨Nat.le_of_ble_eq_true rfl, Nat.le_of_ble_eq_true rfl⟩ ⟨Nat.le_of_ble_eq_true rfl, Nat.le_of_ble_eq_true rfl⟩ 0 rfl rfl rfl rfl hl.1 (Nat.le_of_ble_eq_true rfl) d_Model_total_75) (fun u13 H locs h hP hD hS => ?_)
        replace hP : va_P D CL (wModel k g u13) H := hP
        replace hD : va_D A (wModel k g u13) := hD
        try dsimp only at h
        refine lv_aload_n hx hb d_Model_total_78 rfl (lv_at hl 0 rfl) ?_
        refine va_get (D := D) (ci := 8) (v := .int (u13 38 0)) (C := R_Model) (T := F_Model) (N := 40) hx hb hts in_Model hown hK hP 0 rfl rfl 38 (by decide) (hts _ kw_900) (fun _ h9 => h9) rfl d_Model_total_79 ?_
        exact ret_i (u := u13) (wf := (fun u : (St) => wModel k g u)) C hP hD hS (Nat.zero_le _) (Nat.zero_le _) h d_Model_total_82
      · replace h := h.2 c12
        refine lv_iload_n hx hb d_Model_total_72 rfl (lv_at hl 2 rfl) ?_
        exact ret_i (u := μ) (wf := (fun u : (St) => wModel k g u)) C hP hD hS (Nat.zero_le _) (Nat.zero_le _) h d_Model_total_73
    · replace h := h.2 c11
      refine lv_iload_n hx hb d_Model_total_52 rfl (lv_at hl 2 rfl) ?_
      refine lv_aload_n hx hb d_Model_total_53 rfl (lv_at hl 0 rfl) ?_
      refine va_get (D := D) (ci := 8) (v := .ref (g 19)) (C := R_Model) (T := F_Model) (N := 40) hx hb hts in_Model hown hK hP 0 rfl rfl 21 (by decide) (hts _ kw_883) (fun _ h9 => h9) rfl d_Model_total_54 ?_
      refine lv_iload_n hx hb d_Model_total_57 rfl (lv_at hl 3 rfl) ?_
      obtain ⟨hi15, h⟩ := h
      refine va_iald hx hb hK hP 19 0 rfl rfl hi15 d_Model_total_58 ?_
      refine lv_iadd hx hb d_Model_total_59 ?_
      refine lv_istore_n (lv' := [(2, .int (x2 + (μ 21 (Int32.toNatClampNeg x3)))), (0, .ref (g 0)), (1, .int x1), (3, .int x3)]) hx hb d_Model_total_60 rfl hl (by decide) rfl (fun ls hl => ?_)
      refine lv_iinc (v := x3 + 1) (lv' := [(3, .int (x3 + 1)), (2, .int (x2 + (μ 21 (Int32.toNatClampNeg x3)))), (0, .ref (g 0)), (1, .int x1)]) hx hb d_Model_total_61 hl (k := 3) rfl rfl (by decide) rfl (fun ls hl => ?_)
      refine lv_goto (tgt := 44) hx hb d_Model_total_64 (by decide) ?_
      exact ih x1 (x2 + (μ 21 (Int32.toNatClampNeg x3))) (x3 + 1) μ _ _ _ hP hD hS (lv_sub hl [2, 3, 1, 0] rfl) h
set_option maxHeartbeats 4000000 in
set_option maxRecDepth 100000 in
theorem t_Model_total_15 {p : Program} {l : Launch} {e : Env} {s : State} {m : MethodId} {args : Array Value} {below : List Frame} {meth : Method} {c : Code} {A : Nat → Prop} {D : va_G} {k : Nat → ClassId} {g : Nat → Nat} (C : Cx p s m args meth c D k "PromotionTillModel" b_Model_total 4 (some .int) A) (N : Nat) (post : Int32 → ((St)) → Prop) :
    ∀ (x1 : Int32) (y0 : Int32) (μ : (St)) (H : Heap) (locs : List Loc) (ls : Array Slot), va_P D CL (wModel k g μ) H → va_D A (wModel k g μ) → va_S A s.heap H locs → lv_has ls 4 [(0, .ref (g 0)), (1, .int x1)] → wp_Model_total_15 N post x1 y0 μ → W p l e rm_Model_total s m args below meth c H locs 0 0 (MQ below (va_Qi post (fun (u : (St)) t => va_P D CL (wModel k g u) t.heap ∧ va_D A (wModel k g u)) A) args s rm_Model_total.cells rm_Model_total.slots A) (F0 m 15 ls [.int y0, .ref (g 0)]) := by
  obtain ⟨hx, hb, hr, hlk, hml, hown, hts, hK, hA⟩ := id C
  intro x1 y0 μ H locs ls hP hD hS hl h
  unfold wp_Model_total_15 at h
  refine va_put (D := D) (ci := 8) (v := .int y0) (ty := .int) (C := R_Model) (T := F_Model) (N := 40) hx hb hts in_Model t_Model tt_Model n_Model hown hK hP hD hS 0 rfl rfl 39 (by decide) (hts _ kw_901) (fun _ h9 => h9) rfl (by decide +kernel) rfl rfl (Nat.le_of_ble_eq_true rfl) d_Model_total_15 (fun H locs hP hD hS => ?_)
  obtain ⟨μ4, eμ4⟩ : ∃ z, z = s2 μ 39 0 y0 := ⟨_, rfl⟩
  replace hP : va_P D CL (wModel k g μ4) H := by rw [eμ4]; exact hP
  replace hD : va_D A (wModel k g μ4) := by rw [eμ4]; exact hD
  replace h := h μ4 eμ4
  refine lv_aload_n hx hb d_Model_total_18 rfl (lv_at hl 0 rfl) ?_
  refine va_get (D := D) (ci := 8) (v := .int (μ4 39 0)) (C := R_Model) (T := F_Model) (N := 40) hx hb hts in_Model hown hK hP 0 rfl rfl 39 (by decide) (hts _ kw_901) (fun _ h9 => h9) rfl d_Model_total_19 ?_
  refine lv_if_eq (tgt := 27) hx hb d_Model_total_22 (by decide) (fun c5 => ?_) (fun c5 => ?_)
  · replace h := h.1 c5
    refine lv_aload_n hx hb d_Model_total_27 rfl (lv_at hl 0 rfl) ?_
    refine same_v C hP hD hS (runV (As := []) (rest := []) C hP hD (m_Model_takeBasket N g μ4   _ h H.size) kw_1012 kw_1014 kp_25 kw_12 kw_1015 hd_Model_takeBasket ⟨Nat.le_of_ble_eq_true rfl, Nat.le_of_ble_eq_true rfl⟩ ⟨Nat.le_of_ble_eq_true rfl, Nat.le_of_ble_eq_true rfl⟩ 0 rfl rfl rfl rfl hl.1 (Nat.le_of_ble_eq_true rfl) d_Model_total_28) (fun u6 H locs h hP hD hS => ?_)
    replace hP : va_P D CL (wModel k g u6) H := hP
    replace hD : va_D A (wModel k g u6) := hD
    try dsimp only at h
    refine lv_iload_n hx hb d_Model_total_31 rfl (lv_at hl 1 rfl) ?_
    refine lv_if_ne (tgt := 40) hx hb d_Model_total_32 (by decide) (fun c8 => ?_) (fun c8 => ?_)
    · replace h := h.1 c8
      refine lv_iconst (v := 0) hx hb d_Model_total_40 (by decide) ?_
      refine lv_istore_n (lv' := [(2, .int 0), (0, .ref (g 0)), (1, .int x1)]) hx hb d_Model_total_41 rfl hl (by decide) rfl (fun ls hl => ?_)
      refine lv_iconst (v := 0) hx hb d_Model_total_42 (by decide) ?_
      refine lv_istore_n (lv' := [(3, .int 0), (2, .int 0), (0, .ref (g 0)), (1, .int x1)]) hx hb d_Model_total_43 rfl hl (by decide) rfl (fun ls hl => ?_)
      exact t_Model_total_44 C N post   N x1 0 0 u6 _ _ _ hP hD hS (lv_sub hl [2, 3, 1, 0] rfl) h
    · replace h := h.2 c8
      refine lv_aload_n hx hb d_Model_total_35 rfl (lv_at hl 0 rfl) ?_
      refine same_i C hP hD hS (runV (As := []) (rest := []) C hP hD (m_Model_leastTotal N g u6   _ h H.size) kw_1045 kw_1047 kp_31 kw_12 kw_1048 hd_Model_leastTotal ⟨Nat.le_of_ble_eq_true rfl, Nat.le_of_ble_eq_true rfl⟩ ⟨Nat.le_of_ble_eq_true rfl, Nat.le_of_ble_eq_true rfl⟩ 0 rfl rfl rfl rfl hl.1 (Nat.le_of_ble_eq_true rfl) d_Model_total_36) (fun r10 u9 H locs h hP hD hS => ?_)
      replace hP : va_P D CL (wModel k g u9) H := hP
      replace hD : va_D A (wModel k g u9) := hD
      try dsimp only at h
      exact ret_i (u := u9) (wf := (fun u : (St) => wModel k g u)) C hP hD hS (Nat.zero_le _) (Nat.zero_le _) h d_Model_total_39
  · replace h := h.2 c5
    refine lv_iconst (v := 0) hx hb d_Model_total_25 (by decide) ?_
    exact ret_i (u := μ4) (wf := (fun u : (St) => wModel k g u)) C hP hD hS (Nat.zero_le _) (Nat.zero_le _) h d_Model_total_26
set_option maxHeartbeats 4000000 in
set_option maxRecDepth 100000 in
theorem m_Model_total {l : Launch} {D : va_G} {k : Nat → ClassId} (N : Nat) (g : Nat → Nat) (μ : St) (x1 : Int32) (post : Int32 → ((St)) → Prop) (h : wp_Model_total N  μ x1 post) : Ci l D k y_Model_total b_Model_total 4 .int rm_Model_total [.ref (g 0), .int x1] (wModel k g μ) (fun u : (St) => wModel k g u) post := by
  refine Ci.of (by decide) (Nat.le_of_ble_eq_true rfl) ?_
  intro p e s m below meth c A H locs ls C hP hD hS hl
  obtain ⟨hx, hb, hr, hlk, hml, hown, hts, hK, hA⟩ := id C
  replace hl : lv_has ls 4 [(0, .ref (g 0)), (1, .int x1)] := hl
  unfold wp_Model_total at h
  refine lv_aload_n hx hb d_Model_total_0 rfl (lv_at hl 0 rfl) ?_
  refine lv_iload_n hx hb d_Model_total_1 rfl (lv_at hl 1 rfl) ?_
  refine lv_iconst (v := 0) hx hb d_Model_total_2 (by decide) ?_
  refine lv_iconst (v := 2) hx hb d_Model_total_3 (by decide) ?_
  refine none_i C hP hD hS (runS (As := [.int x1, .int 0, .int 2]) (rest := [.ref (g 0)]) C nilP nilD (m_Model_within N   x1 0 2  _ h H.size) kw_991 kw_992 kw_12 kw_993 (hd_Model_within).2 ⟨Nat.le_of_ble_eq_true rfl, Nat.le_of_ble_eq_true rfl⟩ ⟨Nat.le_of_ble_eq_true rfl, Nat.le_of_ble_eq_true rfl⟩ rfl hl.1 (Nat.le_of_ble_eq_true rfl) d_Model_total_4) (fun r2 u1 H locs h hP hD hS => ?_)
  try dsimp only at h
  refine lv_if_eq (tgt := 14) hx hb d_Model_total_7 (by decide) (fun c3 => ?_) (fun c3 => ?_)
  · replace h := h.1 c3
    refine lv_iconst (v := 1) hx hb d_Model_total_14 (by decide) ?_
    exact t_Model_total_15 C N post x1 1 μ _ _ _ hP hD hS (lv_sub hl [0, 1] rfl) h
  · replace h := h.2 c3
    refine lv_iconst (v := 0) hx hb d_Model_total_10 (by decide) ?_
    refine lv_goto (tgt := 15) hx hb d_Model_total_11 (by decide) ?_
    exact t_Model_total_15 C N post x1 0 μ _ _ _ hP hD hS (lv_sub hl [0, 1] rfl) h
set_option maxHeartbeats 4000000 in
set_option maxRecDepth 100000 in
theorem t_Model_unit_33 {p : Program} {l : Launch} {e : Env} {s : State} {m : MethodId} {args : Array Value} {below : List Frame} {meth : Method} {c : Code} {A : Nat → Prop} {D : va_G} {k : Nat → ClassId} {g : Nat → Nat} (C : Cx p s m args meth c D k "PromotionTillModel" b_Model_unit 3 (some .int) A) (N : Nat) (post : Int32 → ((St)) → Prop) :
    ∀ (x1 : Int32) (x2 : Int32) (y0 : Int32) (μ : (St)) (H : Heap) (locs : List Loc) (ls : Array Slot), va_P D CL (wModel k g μ) H → va_D A (wModel k g μ) → va_S A s.heap H locs → lv_has ls 3 [(0, .ref (g 0)), (1, .int x1), (2, .int x2)] → wp_Model_unit_33 N post x1 x2 y0 μ → W p l e rm_Model_unit s m args below meth c H locs 0 0 (MQ below (va_Qi post (fun (u : (St)) t => va_P D CL (wModel k g u) t.heap ∧ va_D A (wModel k g u)) A) args s rm_Model_unit.cells rm_Model_unit.slots A) (F0 m 33 ls [.int y0, .ref (g 0)]) := by
  obtain ⟨hx, hb, hr, hlk, hml, hown, hts, hK, hA⟩ := id C
  intro x1 x2 y0 μ H locs ls hP hD hS hl h
  unfold wp_Model_unit_33 at h
  refine va_put (D := D) (ci := 8) (v := .int y0) (ty := .int) (C := R_Model) (T := F_Model) (N := 40) hx hb hts in_Model t_Model tt_Model n_Model hown hK hP hD hS 0 rfl rfl 39 (by decide) (hts _ kw_901) (fun _ h9 => h9) rfl (by decide +kernel) rfl rfl (Nat.le_of_ble_eq_true rfl) d_Model_unit_33 (fun H locs hP hD hS => ?_)
  obtain ⟨μ7, eμ7⟩ : ∃ z, z = s2 μ 39 0 y0 := ⟨_, rfl⟩
  replace hP : va_P D CL (wModel k g μ7) H := by rw [eμ7]; exact hP
  replace hD : va_D A (wModel k g μ7) := by rw [eμ7]; exact hD
  replace h := h μ7 eμ7
  refine lv_aload_n hx hb d_Model_unit_36 rfl (lv_at hl 0 rfl) ?_
  refine va_get (D := D) (ci := 8) (v := .int (μ7 39 0)) (C := R_Model) (T := F_Model) (N := 40) hx hb hts in_Model hown hK hP 0 rfl rfl 39 (by decide) (hts _ kw_901) (fun _ h9 => h9) rfl d_Model_unit_37 ?_
  refine lv_if_eq (tgt := 45) hx hb d_Model_unit_40 (by decide) (fun c8 => ?_) (fun c8 => ?_)
  · replace h := h.1 c8
    refine lv_aload_n hx hb d_Model_unit_45 rfl (lv_at hl 0 rfl) ?_
    refine same_v C hP hD hS (runV (As := []) (rest := []) C hP hD (m_Model_takeBasket N g μ7   _ h H.size) kw_1012 kw_1014 kp_25 kw_12 kw_1015 hd_Model_takeBasket ⟨Nat.le_of_ble_eq_true rfl, Nat.le_of_ble_eq_true rfl⟩ ⟨Nat.le_of_ble_eq_true rfl, Nat.le_of_ble_eq_true rfl⟩ 0 rfl rfl rfl rfl hl.1 (Nat.le_of_ble_eq_true rfl) d_Model_unit_46) (fun u9 H locs h hP hD hS => ?_)
    replace hP : va_P D CL (wModel k g u9) H := hP
    replace hD : va_D A (wModel k g u9) := hD
    try dsimp only at h
    refine lv_aload_n hx hb d_Model_unit_49 rfl (lv_at hl 0 rfl) ?_
    refine same_v C hP hD hS (runV (As := []) (rest := []) C hP hD (m_Model_plan N g u9   _ h H.size) kw_1089 kw_1091 kp_42 kw_12 kw_1092 hd_Model_plan ⟨Nat.le_of_ble_eq_true rfl, Nat.le_of_ble_eq_true rfl⟩ ⟨Nat.le_of_ble_eq_true rfl, Nat.le_of_ble_eq_true rfl⟩ 0 rfl rfl rfl rfl hl.1 (Nat.le_of_ble_eq_true rfl) d_Model_unit_50) (fun u11 H locs h hP hD hS => ?_)
    replace hP : va_P D CL (wModel k g u11) H := hP
    replace hD : va_D A (wModel k g u11) := hD
    try dsimp only at h
    refine lv_iload_n hx hb d_Model_unit_53 rfl (lv_at hl 2 rfl) ?_
    refine lv_if_ne (tgt := 66) hx hb d_Model_unit_54 (by decide) (fun c13 => ?_) (fun c13 => ?_)
    · replace h := h.1 c13
      refine lv_iload_n hx hb d_Model_unit_66 rfl (lv_at hl 2 rfl) ?_
      refine lv_iconst (v := 1) hx hb d_Model_unit_67 (by decide) ?_
      refine lv_icmp_ne (tgt := 80) hx hb d_Model_unit_68 (by decide) (fun c14 => ?_) (fun c14 => ?_)
      · replace h := h.1 c14
        refine lv_iload_n hx hb d_Model_unit_80 rfl (lv_at hl 2 rfl) ?_
        refine lv_iconst (v := 2) hx hb d_Model_unit_81 (by decide) ?_
        refine lv_icmp_ne (tgt := 94) hx hb d_Model_unit_82 (by decide) (fun c15 => ?_) (fun c15 => ?_)
        · replace h := h.1 c15
          refine lv_aload_n hx hb d_Model_unit_94 rfl (lv_at hl 0 rfl) ?_
          refine va_get (D := D) (ci := 8) (v := .ref (g 29)) (C := R_Model) (T := F_Model) (N := 40) hx hb hts in_Model hown hK hP 0 rfl rfl 36 (by decide) (hts _ kw_898) (fun _ h9 => h9) rfl d_Model_unit_95 ?_
          refine lv_iload_n hx hb d_Model_unit_98 rfl (lv_at hl 1 rfl) ?_
          obtain ⟨hi16, h⟩ := h
          refine va_iald hx hb hK hP 29 0 rfl rfl hi16 d_Model_unit_99 ?_
          exact ret_i (u := u11) (wf := (fun u : (St) => wModel k g u)) C hP hD hS (Nat.zero_le _) (Nat.zero_le _) h d_Model_unit_100
        · replace h := h.2 c15
          refine lv_aload_n hx hb d_Model_unit_85 rfl (lv_at hl 0 rfl) ?_
          refine va_get (D := D) (ci := 8) (v := .ref (g 28)) (C := R_Model) (T := F_Model) (N := 40) hx hb hts in_Model hown hK hP 0 rfl rfl 35 (by decide) (hts _ kw_897) (fun _ h9 => h9) rfl d_Model_unit_86 ?_
          refine lv_iload_n hx hb d_Model_unit_89 rfl (lv_at hl 1 rfl) ?_
          obtain ⟨hi17, h⟩ := h
          refine va_iald hx hb hK hP 28 0 rfl rfl hi17 d_Model_unit_90 ?_
          refine lv_goto (tgt := 100) hx hb d_Model_unit_91 (by decide) ?_
          exact ret_i (u := u11) (wf := (fun u : (St) => wModel k g u)) C hP hD hS (Nat.zero_le _) (Nat.zero_le _) h d_Model_unit_100
      · replace h := h.2 c14
        refine lv_aload_n hx hb d_Model_unit_71 rfl (lv_at hl 0 rfl) ?_
        refine va_get (D := D) (ci := 8) (v := .ref (g 27)) (C := R_Model) (T := F_Model) (N := 40) hx hb hts in_Model hown hK hP 0 rfl rfl 34 (by decide) (hts _ kw_896) (fun _ h9 => h9) rfl d_Model_unit_72 ?_
        refine lv_iload_n hx hb d_Model_unit_75 rfl (lv_at hl 1 rfl) ?_
        obtain ⟨hi18, h⟩ := h
        refine va_iald hx hb hK hP 27 0 rfl rfl hi18 d_Model_unit_76 ?_
        refine lv_goto (tgt := 100) hx hb d_Model_unit_77 (by decide) ?_
        exact ret_i (u := u11) (wf := (fun u : (St) => wModel k g u)) C hP hD hS (Nat.zero_le _) (Nat.zero_le _) h d_Model_unit_100
    · replace h := h.2 c13
      refine lv_aload_n hx hb d_Model_unit_57 rfl (lv_at hl 0 rfl) ?_
      refine va_get (D := D) (ci := 8) (v := .ref (g 9)) (C := R_Model) (T := F_Model) (N := 40) hx hb hts in_Model hown hK hP 0 rfl rfl 8 (by decide) (hts _ kw_870) (fun _ h9 => h9) rfl d_Model_unit_58 ?_
      refine lv_iload_n hx hb d_Model_unit_61 rfl (lv_at hl 1 rfl) ?_
      obtain ⟨hi19, h⟩ := h
      refine va_iald hx hb hK hP 9 0 rfl rfl hi19 d_Model_unit_62 ?_
      refine lv_goto (tgt := 100) hx hb d_Model_unit_63 (by decide) ?_
      exact ret_i (u := u11) (wf := (fun u : (St) => wModel k g u)) C hP hD hS (Nat.zero_le _) (Nat.zero_le _) h d_Model_unit_100
  · replace h := h.2 c8
    refine lv_iconst (v := 0) hx hb d_Model_unit_43 (by decide) ?_
    exact ret_i (u := μ7) (wf := (fun u : (St) => wModel k g u)) C hP hD hS (Nat.zero_le _) (Nat.zero_le _) h d_Model_unit_44
set_option maxHeartbeats 4000000 in
set_option maxRecDepth 100000 in
theorem m_Model_unit {l : Launch} {D : va_G} {k : Nat → ClassId} (N : Nat) (g : Nat → Nat) (μ : St) (x1 : Int32) (x2 : Int32) (post : Int32 → ((St)) → Prop) (h : wp_Model_unit N  μ x1 x2 post) : Ci l D k y_Model_unit b_Model_unit 3 .int rm_Model_unit [.ref (g 0), .int x1, .int x2] (wModel k g μ) (fun u : (St) => wModel k g u) post := by
  refine Ci.of (by decide) (Nat.le_of_ble_eq_true rfl) ?_
  intro p e s m below meth c A H locs ls C hP hD hS hl
  obtain ⟨hx, hb, hr, hlk, hml, hown, hts, hK, hA⟩ := id C
  replace hl : lv_has ls 3 [(0, .ref (g 0)), (1, .int x1), (2, .int x2)] := hl
  unfold wp_Model_unit at h
  refine lv_aload_n hx hb d_Model_unit_0 rfl (lv_at hl 0 rfl) ?_
  refine lv_iload_n hx hb d_Model_unit_1 rfl (lv_at hl 1 rfl) ?_
  refine lv_iconst (v := 0) hx hb d_Model_unit_2 (by decide) ?_
  refine lv_aload_n hx hb d_Model_unit_3 rfl (lv_at hl 0 rfl) ?_
  refine va_get (D := D) (ci := 8) (v := .int (μ 9 0)) (C := R_Model) (T := F_Model) (N := 40) hx hb hts in_Model hown hK hP 0 rfl rfl 9 (by decide) (hts _ kw_871) (fun _ h9 => h9) rfl d_Model_unit_4 ?_
  refine lv_iconst (v := 1) hx hb d_Model_unit_7 (by decide) ?_
  refine lv_isub hx hb d_Model_unit_8 ?_
  refine none_i C hP hD hS (runS (As := [.int x1, .int 0, .int ((μ 9 0) - 1)]) (rest := [.ref (g 0)]) C nilP nilD (m_Model_within N   x1 0 ((μ 9 0) - 1)  _ h H.size) kw_991 kw_992 kw_12 kw_993 (hd_Model_within).2 ⟨Nat.le_of_ble_eq_true rfl, Nat.le_of_ble_eq_true rfl⟩ ⟨Nat.le_of_ble_eq_true rfl, Nat.le_of_ble_eq_true rfl⟩ rfl hl.1 (Nat.le_of_ble_eq_true rfl) d_Model_unit_9) (fun r2 u1 H locs h hP hD hS => ?_)
  try dsimp only at h
  refine lv_if_ne (tgt := 19) hx hb d_Model_unit_12 (by decide) (fun c3 => ?_) (fun c3 => ?_)
  · replace h := h.1 c3
    refine lv_iload_n hx hb d_Model_unit_19 rfl (lv_at hl 2 rfl) ?_
    refine lv_iconst (v := 0) hx hb d_Model_unit_20 (by decide) ?_
    refine lv_iconst (v := 3) hx hb d_Model_unit_21 (by decide) ?_
    refine none_i C hP hD hS (runS (As := [.int x2, .int 0, .int 3]) (rest := [.ref (g 0)]) C nilP nilD (m_Model_within N   x2 0 3  _ h H.size) kw_991 kw_992 kw_12 kw_993 (hd_Model_within).2 ⟨Nat.le_of_ble_eq_true rfl, Nat.le_of_ble_eq_true rfl⟩ ⟨Nat.le_of_ble_eq_true rfl, Nat.le_of_ble_eq_true rfl⟩ rfl hl.1 (Nat.le_of_ble_eq_true rfl) d_Model_unit_22) (fun r5 u4 H locs h hP hD hS => ?_)
    try dsimp only at h
    refine lv_if_ne (tgt := 32) hx hb d_Model_unit_25 (by decide) (fun c6 => ?_) (fun c6 => ?_)
    · replace h := h.1 c6
      refine lv_iconst (v := 0) hx hb d_Model_unit_32 (by decide) ?_
      exact t_Model_unit_33 C N post x1 x2 0 μ _ _ _ hP hD hS (lv_sub hl [0, 1, 2] rfl) h
    · replace h := h.2 c6
      refine lv_iconst (v := 2) hx hb d_Model_unit_28 (by decide) ?_
      refine lv_goto (tgt := 33) hx hb d_Model_unit_29 (by decide) ?_
      exact t_Model_unit_33 C N post x1 x2 2 μ _ _ _ hP hD hS (lv_sub hl [0, 1, 2] rfl) h
  · replace h := h.2 c3
    refine lv_iconst (v := 1) hx hb d_Model_unit_15 (by decide) ?_
    refine lv_goto (tgt := 33) hx hb d_Model_unit_16 (by decide) ?_
    exact t_Model_unit_33 C N post x1 x2 1 μ _ _ _ hP hD hS (lv_sub hl [0, 1, 2] rfl) h
set_option maxHeartbeats 4000000 in
set_option maxRecDepth 100000 in
theorem t_Model_tax_112 {p : Program} {l : Launch} {e : Env} {s : State} {m : MethodId} {args : Array Value} {below : List Frame} {meth : Method} {c : Code} {A : Nat → Prop} {D : va_G} {k : Nat → ClassId} {g : Nat → Nat} (C : Cx p s m args meth c D k "PromotionTillModel" b_Model_tax 5 (some .int) A) (N : Nat) (post : Int32 → ((St)) → Prop) :
    ∀ (x2 : Int64) (y0 : Int32) (μ : (St)) (H : Heap) (locs : List Loc) (ls : Array Slot), va_P D CL (wModel k g μ) H → va_D A (wModel k g μ) → va_S A s.heap H locs → lv_has ls 5 [(2, .long x2)] → wp_Model_tax_112 N post x2 y0 μ → W p l e rm_Model_tax s m args below meth c H locs 0 0 (MQ below (va_Qi post (fun (u : (St)) t => va_P D CL (wModel k g u) t.heap ∧ va_D A (wModel k g u)) A) args s rm_Model_tax.cells rm_Model_tax.slots A) (F0 m 112 ls [.int y0]) := by
  obtain ⟨hx, hb, hr, hlk, hml, hown, hts, hK, hA⟩ := id C
  intro x2 y0 μ H locs ls hP hD hS hl h
  unfold wp_Model_tax_112 at h
  refine lv_istore (lv' := [(4, .int y0), (2, .long x2)]) hx hb d_Model_tax_112 hl (by decide) rfl (fun ls hl => ?_)
  refine lv_ldc2 (v := 2) hx hb hown (hts _ kw_1121) d_Model_tax_114 ?_
  refine lv_lload_n hx hb d_Model_tax_117 rfl (lv_at hl 1 rfl) ?_
  refine lv_lmul hx hb d_Model_tax_118 ?_
  refine lv_iload hx hb d_Model_tax_119 (lv_at hl 0 rfl) ?_
  refine lv_i2l hx hb d_Model_tax_121 rfl ?_
  refine lv_lmul hx hb d_Model_tax_122 ?_
  refine lv_ldc2 (v := 100) hx hb hown (hts _ kw_1122) d_Model_tax_123 ?_
  refine lv_ladd hx hb d_Model_tax_126 ?_
  refine lv_iload hx hb d_Model_tax_127 (lv_at hl 0 rfl) ?_
  refine lv_i2l hx hb d_Model_tax_129 rfl ?_
  refine lv_ladd hx hb d_Model_tax_130 ?_
  refine lv_iconst (v := 2) hx hb d_Model_tax_131 (by decide) ?_
  refine lv_bipush (v := 100) hx hb d_Model_tax_132 (by decide) ?_
  refine lv_iload hx hb d_Model_tax_134 (lv_at hl 0 rfl) ?_
  refine lv_iadd hx hb d_Model_tax_136 ?_
  refine lv_imul hx hb d_Model_tax_137 ?_
  refine lv_i2l hx hb d_Model_tax_138 rfl ?_
  obtain ⟨hz18, h⟩ := h
  refine lv_ldiv hx hb d_Model_tax_139 hz18 ?_
  refine lv_l2i hx hb d_Model_tax_140 rfl ?_
  exact ret_i (u := μ) (wf := (fun u : (St) => wModel k g u)) C hP hD hS (Nat.zero_le _) (Nat.zero_le _) h d_Model_tax_141
set_option maxHeartbeats 4000000 in
set_option maxRecDepth 100000 in
theorem t_Model_tax_76 {p : Program} {l : Launch} {e : Env} {s : State} {m : MethodId} {args : Array Value} {below : List Frame} {meth : Method} {c : Code} {A : Nat → Prop} {D : va_G} {k : Nat → ClassId} {g : Nat → Nat} (C : Cx p s m args meth c D k "PromotionTillModel" b_Model_tax 5 (some .int) A) (N : Nat) (post : Int32 → ((St)) → Prop) (K_40 : Int32 → Int64 → Int32 → (St) → Prop) (hK_40 : ∀ (x1 : Int32) (x2 : Int64) (x4 : Int32) (μ : (St)) (H : Heap) (locs : List Loc) (ls : Array Slot), va_P D CL (wModel k g μ) H → va_D A (wModel k g μ) → va_S A s.heap H locs → lv_has ls 5 [(0, .ref (g 0)), (1, .int x1), (2, .long x2), (4, .int x4)] → K_40 x1 x2 x4 μ → W p l e rm_Model_tax s m args below meth c H locs 0 0 (MQ below (va_Qi post (fun (u : (St)) t => va_P D CL (wModel k g u) t.heap ∧ va_D A (wModel k g u)) A) args s rm_Model_tax.cells rm_Model_tax.slots A) (F0 m 40 ls [])) :
    ∀ (x1 : Int32) (x2 : Int64) (x4 : Int32) (μ : (St)) (H : Heap) (locs : List Loc) (ls : Array Slot), va_P D CL (wModel k g μ) H → va_D A (wModel k g μ) → va_S A s.heap H locs → lv_has ls 5 [(0, .ref (g 0)), (1, .int x1), (2, .long x2), (4, .int x4)] → wp_Model_tax_76 N post K_40 x1 x2 x4 μ → W p l e rm_Model_tax s m args below meth c H locs 0 0 (MQ below (va_Qi post (fun (u : (St)) t => va_P D CL (wModel k g u) t.heap ∧ va_D A (wModel k g u)) A) args s rm_Model_tax.cells rm_Model_tax.slots A) (F0 m 76 ls []) := by
  obtain ⟨hx, hb, hr, hlk, hml, hown, hts, hK, hA⟩ := id C
  intro x1 x2 x4 μ H locs ls hP hD hS hl h
  unfold wp_Model_tax_76 at h
  refine lv_iinc (v := x4 + 1) (lv' := [(4, .int (x4 + 1)), (0, .ref (g 0)), (1, .int x1), (2, .long x2)]) hx hb d_Model_tax_76 hl (k := 3) rfl rfl (by decide) rfl (fun ls hl => ?_)
  refine lv_goto (tgt := 40) hx hb d_Model_tax_79 (by decide) ?_
  exact hK_40 x1 x2 (x4 + 1) μ _ _ _ hP hD hS (lv_sub hl [1, 2, 3, 0] rfl) h
set_option maxHeartbeats 4000000 in
set_option maxRecDepth 100000 in
theorem t_Model_tax_40 {p : Program} {l : Launch} {e : Env} {s : State} {m : MethodId} {args : Array Value} {below : List Frame} {meth : Method} {c : Code} {A : Nat → Prop} {D : va_G} {k : Nat → ClassId} {g : Nat → Nat} (C : Cx p s m args meth c D k "PromotionTillModel" b_Model_tax 5 (some .int) A) (N : Nat) (post : Int32 → ((St)) → Prop) :
    ∀ (n : Nat) (x1 : Int32) (x2 : Int64) (x4 : Int32) (μ : (St)) (H : Heap) (locs : List Loc) (ls : Array Slot), va_P D CL (wModel k g μ) H → va_D A (wModel k g μ) → va_S A s.heap H locs → lv_has ls 5 [(0, .ref (g 0)), (1, .int x1), (2, .long x2), (4, .int x4)] → wp_Model_tax_40 N post n x1 x2 x4 μ → W p l e rm_Model_tax s m args below meth c H locs 0 0 (MQ below (va_Qi post (fun (u : (St)) t => va_P D CL (wModel k g u) t.heap ∧ va_D A (wModel k g u)) A) args s rm_Model_tax.cells rm_Model_tax.slots A) (F0 m 40 ls []) := by
  obtain ⟨hx, hb, hr, hlk, hml, hown, hts, hK, hA⟩ := id C
  intro n
  induction n with
  | zero =>
    intro x1 x2 x4 μ H locs ls hP hD hS hl h
    exact absurd h (by simp [wp_Model_tax_40])
  | succ n ih =>
    intro x1 x2 x4 μ H locs ls hP hD hS hl h
    rw [wp_Model_tax_40] at h
    refine lv_iload hx hb d_Model_tax_40 (lv_at hl 3 rfl) ?_
    refine lv_aload_n hx hb d_Model_tax_42 rfl (lv_at hl 0 rfl) ?_
    refine va_get (D := D) (ci := 8) (v := .int (μ 9 0)) (C := R_Model) (T := F_Model) (N := 40) hx hb hts in_Model hown hK hP 0 rfl rfl 9 (by decide) (hts _ kw_871) (fun _ h9 => h9) rfl d_Model_tax_43 ?_
    refine lv_icmp_ge (tgt := 82) hx hb d_Model_tax_46 (by decide) (fun c10 => ?_) (fun c10 => ?_)
    · replace h := h.1 c10
      refine lv_iload_n hx hb d_Model_tax_82 rfl (lv_at hl 1 rfl) ?_
      refine lv_if_ne (tgt := 90) hx hb d_Model_tax_83 (by decide) (fun c11 => ?_) (fun c11 => ?_)
      · replace h := h.1 c11
        refine lv_iload_n hx hb d_Model_tax_90 rfl (lv_at hl 1 rfl) ?_
        refine lv_iconst (v := 1) hx hb d_Model_tax_91 (by decide) ?_
        refine lv_icmp_ne (tgt := 100) hx hb d_Model_tax_92 (by decide) (fun c12 => ?_) (fun c12 => ?_)
        · replace h := h.1 c12
          refine lv_iload_n hx hb d_Model_tax_100 rfl (lv_at hl 1 rfl) ?_
          refine lv_iconst (v := 2) hx hb d_Model_tax_101 (by decide) ?_
          refine lv_icmp_ne (tgt := 110) hx hb d_Model_tax_102 (by decide) (fun c13 => ?_) (fun c13 => ?_)
          · replace h := h.1 c13
            refine lv_bipush (v := 25) hx hb d_Model_tax_110 (by decide) ?_
            exact t_Model_tax_112 C N post x2 25 μ _ _ _ hP hD hS (lv_sub hl [2] rfl) h
          · replace h := h.2 c13
            refine lv_bipush (v := 19) hx hb d_Model_tax_105 (by decide) ?_
            refine lv_goto (tgt := 112) hx hb d_Model_tax_107 (by decide) ?_
            exact t_Model_tax_112 C N post x2 19 μ _ _ _ hP hD hS (lv_sub hl [2] rfl) h
        · replace h := h.2 c12
          refine lv_bipush (v := 7) hx hb d_Model_tax_95 (by decide) ?_
          refine lv_goto (tgt := 112) hx hb d_Model_tax_97 (by decide) ?_
          exact t_Model_tax_112 C N post x2 7 μ _ _ _ hP hD hS (lv_sub hl [2] rfl) h
      · replace h := h.2 c11
        refine lv_iconst (v := 0) hx hb d_Model_tax_86 (by decide) ?_
        refine lv_goto (tgt := 112) hx hb d_Model_tax_87 (by decide) ?_
        exact t_Model_tax_112 C N post x2 0 μ _ _ _ hP hD hS (lv_sub hl [2] rfl) h
    · replace h := h.2 c10
      refine lv_aload_n hx hb d_Model_tax_49 rfl (lv_at hl 0 rfl) ?_
      refine va_get (D := D) (ci := 8) (v := .ref (g 2)) (C := R_Model) (T := F_Model) (N := 40) hx hb hts in_Model hown hK hP 0 rfl rfl 1 (by decide) (hts _ kw_863) (fun _ h9 => h9) rfl d_Model_tax_50 ?_
      refine lv_aload_n hx hb d_Model_tax_53 rfl (lv_at hl 0 rfl) ?_
      refine va_get (D := D) (ci := 8) (v := .ref (g 9)) (C := R_Model) (T := F_Model) (N := 40) hx hb hts in_Model hown hK hP 0 rfl rfl 8 (by decide) (hts _ kw_870) (fun _ h9 => h9) rfl d_Model_tax_54 ?_
      refine lv_iload hx hb d_Model_tax_57 (lv_at hl 3 rfl) ?_
      obtain ⟨hi14, h⟩ := h
      refine va_iald hx hb hK hP 9 0 rfl rfl hi14 d_Model_tax_59 ?_
      obtain ⟨hi15, h⟩ := h
      refine va_iald hx hb hK hP 2 0 rfl rfl hi15 d_Model_tax_60 ?_
      refine lv_iload_n hx hb d_Model_tax_61 rfl (lv_at hl 1 rfl) ?_
      refine lv_icmp_ne (tgt := 76) hx hb d_Model_tax_62 (by decide) (fun c16 => ?_) (fun c16 => ?_)
      · replace h := h.1 c16
        exact t_Model_tax_76 C N post (wp_Model_tax_40 N post n) ih x1 x2 x4 μ _ _ _ hP hD hS (lv_sub hl [0, 1, 2, 3] rfl) h
      · replace h := h.2 c16
        refine lv_lload_n hx hb d_Model_tax_65 rfl (lv_at hl 2 rfl) ?_
        refine lv_aload_n hx hb d_Model_tax_66 rfl (lv_at hl 0 rfl) ?_
        refine va_get (D := D) (ci := 8) (v := .ref (g 29)) (C := R_Model) (T := F_Model) (N := 40) hx hb hts in_Model hown hK hP 0 rfl rfl 36 (by decide) (hts _ kw_898) (fun _ h9 => h9) rfl d_Model_tax_67 ?_
        refine lv_iload hx hb d_Model_tax_70 (lv_at hl 3 rfl) ?_
        obtain ⟨hi17, h⟩ := h
        refine va_iald hx hb hK hP 29 0 rfl rfl hi17 d_Model_tax_72 ?_
        refine lv_i2l hx hb d_Model_tax_73 rfl ?_
        refine lv_ladd hx hb d_Model_tax_74 ?_
        refine lv_lstore_n (lv' := [(2, .long (x2 + (Int32.toInt64 (μ 36 (Int32.toNatClampNeg x4))))), (0, .ref (g 0)), (1, .int x1), (4, .int x4)]) hx hb d_Model_tax_75 rfl hl (by decide) rfl (fun ls hl => ?_)
        exact t_Model_tax_76 C N post (wp_Model_tax_40 N post n) ih x1 (x2 + (Int32.toInt64 (μ 36 (Int32.toNatClampNeg x4)))) x4 μ _ _ _ hP hD hS (lv_sub hl [1, 2, 0, 3] rfl) h
set_option maxHeartbeats 4000000 in
set_option maxRecDepth 100000 in
theorem t_Model_tax_15 {p : Program} {l : Launch} {e : Env} {s : State} {m : MethodId} {args : Array Value} {below : List Frame} {meth : Method} {c : Code} {A : Nat → Prop} {D : va_G} {k : Nat → ClassId} {g : Nat → Nat} (C : Cx p s m args meth c D k "PromotionTillModel" b_Model_tax 5 (some .int) A) (N : Nat) (post : Int32 → ((St)) → Prop) :
    ∀ (x1 : Int32) (y0 : Int32) (μ : (St)) (H : Heap) (locs : List Loc) (ls : Array Slot), va_P D CL (wModel k g μ) H → va_D A (wModel k g μ) → va_S A s.heap H locs → lv_has ls 5 [(0, .ref (g 0)), (1, .int x1)] → wp_Model_tax_15 N post x1 y0 μ → W p l e rm_Model_tax s m args below meth c H locs 0 0 (MQ below (va_Qi post (fun (u : (St)) t => va_P D CL (wModel k g u) t.heap ∧ va_D A (wModel k g u)) A) args s rm_Model_tax.cells rm_Model_tax.slots A) (F0 m 15 ls [.int y0, .ref (g 0)]) := by
  obtain ⟨hx, hb, hr, hlk, hml, hown, hts, hK, hA⟩ := id C
  intro x1 y0 μ H locs ls hP hD hS hl h
  unfold wp_Model_tax_15 at h
  refine va_put (D := D) (ci := 8) (v := .int y0) (ty := .int) (C := R_Model) (T := F_Model) (N := 40) hx hb hts in_Model t_Model tt_Model n_Model hown hK hP hD hS 0 rfl rfl 39 (by decide) (hts _ kw_901) (fun _ h9 => h9) rfl (by decide +kernel) rfl rfl (Nat.le_of_ble_eq_true rfl) d_Model_tax_15 (fun H locs hP hD hS => ?_)
  obtain ⟨μ4, eμ4⟩ : ∃ z, z = s2 μ 39 0 y0 := ⟨_, rfl⟩
  replace hP : va_P D CL (wModel k g μ4) H := by rw [eμ4]; exact hP
  replace hD : va_D A (wModel k g μ4) := by rw [eμ4]; exact hD
  replace h := h μ4 eμ4
  refine lv_aload_n hx hb d_Model_tax_18 rfl (lv_at hl 0 rfl) ?_
  refine va_get (D := D) (ci := 8) (v := .int (μ4 39 0)) (C := R_Model) (T := F_Model) (N := 40) hx hb hts in_Model hown hK hP 0 rfl rfl 39 (by decide) (hts _ kw_901) (fun _ h9 => h9) rfl d_Model_tax_19 ?_
  refine lv_if_eq (tgt := 27) hx hb d_Model_tax_22 (by decide) (fun c5 => ?_) (fun c5 => ?_)
  · replace h := h.1 c5
    refine lv_aload_n hx hb d_Model_tax_27 rfl (lv_at hl 0 rfl) ?_
    refine same_v C hP hD hS (runV (As := []) (rest := []) C hP hD (m_Model_takeBasket N g μ4   _ h H.size) kw_1012 kw_1014 kp_25 kw_12 kw_1015 hd_Model_takeBasket ⟨Nat.le_of_ble_eq_true rfl, Nat.le_of_ble_eq_true rfl⟩ ⟨Nat.le_of_ble_eq_true rfl, Nat.le_of_ble_eq_true rfl⟩ 0 rfl rfl rfl rfl hl.1 (Nat.le_of_ble_eq_true rfl) d_Model_tax_28) (fun u6 H locs h hP hD hS => ?_)
    replace hP : va_P D CL (wModel k g u6) H := hP
    replace hD : va_D A (wModel k g u6) := hD
    try dsimp only at h
    refine lv_aload_n hx hb d_Model_tax_31 rfl (lv_at hl 0 rfl) ?_
    refine same_v C hP hD hS (runV (As := []) (rest := []) C hP hD (m_Model_plan N g u6   _ h H.size) kw_1089 kw_1091 kp_42 kw_12 kw_1092 hd_Model_plan ⟨Nat.le_of_ble_eq_true rfl, Nat.le_of_ble_eq_true rfl⟩ ⟨Nat.le_of_ble_eq_true rfl, Nat.le_of_ble_eq_true rfl⟩ 0 rfl rfl rfl rfl hl.1 (Nat.le_of_ble_eq_true rfl) d_Model_tax_32) (fun u8 H locs h hP hD hS => ?_)
    replace hP : va_P D CL (wModel k g u8) H := hP
    replace hD : va_D A (wModel k g u8) := hD
    try dsimp only at h
    refine lv_lconst (v := 0) hx hb d_Model_tax_35 (by decide) ?_
    refine lv_lstore_n (lv' := [(2, .long 0), (0, .ref (g 0)), (1, .int x1)]) hx hb d_Model_tax_36 rfl hl (by decide) rfl (fun ls hl => ?_)
    refine lv_iconst (v := 0) hx hb d_Model_tax_37 (by decide) ?_
    refine lv_istore (lv' := [(4, .int 0), (2, .long 0), (0, .ref (g 0)), (1, .int x1)]) hx hb d_Model_tax_38 hl (by decide) rfl (fun ls hl => ?_)
    exact t_Model_tax_40 C N post   N x1 0 0 u8 _ _ _ hP hD hS (lv_sub hl [2, 3, 1, 0] rfl) h
  · replace h := h.2 c5
    refine lv_iconst (v := 0) hx hb d_Model_tax_25 (by decide) ?_
    exact ret_i (u := μ4) (wf := (fun u : (St) => wModel k g u)) C hP hD hS (Nat.zero_le _) (Nat.zero_le _) h d_Model_tax_26
set_option maxHeartbeats 4000000 in
set_option maxRecDepth 100000 in
theorem m_Model_tax {l : Launch} {D : va_G} {k : Nat → ClassId} (N : Nat) (g : Nat → Nat) (μ : St) (x1 : Int32) (post : Int32 → ((St)) → Prop) (h : wp_Model_tax N  μ x1 post) : Ci l D k y_Model_tax b_Model_tax 5 .int rm_Model_tax [.ref (g 0), .int x1] (wModel k g μ) (fun u : (St) => wModel k g u) post := by
  refine Ci.of (by decide) (Nat.le_of_ble_eq_true rfl) ?_
  intro p e s m below meth c A H locs ls C hP hD hS hl
  obtain ⟨hx, hb, hr, hlk, hml, hown, hts, hK, hA⟩ := id C
  replace hl : lv_has ls 5 [(0, .ref (g 0)), (1, .int x1)] := hl
  unfold wp_Model_tax at h
  refine lv_aload_n hx hb d_Model_tax_0 rfl (lv_at hl 0 rfl) ?_
  refine lv_iload_n hx hb d_Model_tax_1 rfl (lv_at hl 1 rfl) ?_
  refine lv_iconst (v := 0) hx hb d_Model_tax_2 (by decide) ?_
  refine lv_iconst (v := 3) hx hb d_Model_tax_3 (by decide) ?_
  refine none_i C hP hD hS (runS (As := [.int x1, .int 0, .int 3]) (rest := [.ref (g 0)]) C nilP nilD (m_Model_within N   x1 0 3  _ h H.size) kw_991 kw_992 kw_12 kw_993 (hd_Model_within).2 ⟨Nat.le_of_ble_eq_true rfl, Nat.le_of_ble_eq_true rfl⟩ ⟨Nat.le_of_ble_eq_true rfl, Nat.le_of_ble_eq_true rfl⟩ rfl hl.1 (Nat.le_of_ble_eq_true rfl) d_Model_tax_4) (fun r2 u1 H locs h hP hD hS => ?_)
  try dsimp only at h
  refine lv_if_eq (tgt := 14) hx hb d_Model_tax_7 (by decide) (fun c3 => ?_) (fun c3 => ?_)
  · replace h := h.1 c3
    refine lv_iconst (v := 1) hx hb d_Model_tax_14 (by decide) ?_
    exact t_Model_tax_15 C N post x1 1 μ _ _ _ hP hD hS (lv_sub hl [0, 1] rfl) h
  · replace h := h.2 c3
    refine lv_iconst (v := 0) hx hb d_Model_tax_10 (by decide) ?_
    refine lv_goto (tgt := 15) hx hb d_Model_tax_11 (by decide) ?_
    exact t_Model_tax_15 C N post x1 0 μ _ _ _ hP hD hS (lv_sub hl [0, 1] rfl) h
set_option maxHeartbeats 4000000 in
set_option maxRecDepth 100000 in
theorem t_Model_tryOffer_107 {p : Program} {l : Launch} {e : Env} {s : State} {m : MethodId} {args : Array Value} {below : List Frame} {meth : Method} {c : Code} {A : Nat → Prop} {D : va_G} {k : Nat → ClassId} {g : Nat → Nat} (C : Cx p s m args meth c D k "PromotionTillModel" b_Model_tryOffer 4 (some .int) A) (N : Nat) (post : Int32 → ((St)) → Prop) :
    ∀ (x3 : Int32) (y0 : Int32) (y1 : Int32) (μ : (St)) (H : Heap) (locs : List Loc) (ls : Array Slot), va_P D CL (wModel k g μ) H → va_D A (wModel k g μ) → va_S A s.heap H locs → lv_has ls 4 [(3, .int x3)] → wp_Model_tryOffer_107 N post x3 y0 y1 μ → W p l e rm_Model_tryOffer s m args below meth c H locs 0 0 (MQ below (va_Qi post (fun (u : (St)) t => va_P D CL (wModel k g u) t.heap ∧ va_D A (wModel k g u)) A) args s rm_Model_tryOffer.cells rm_Model_tryOffer.slots A) (F0 m 107 ls [.int y0, .int y1, .ref (g 7)]) := by
  obtain ⟨hx, hb, hr, hlk, hml, hown, hts, hK, hA⟩ := id C
  intro x3 y0 y1 μ H locs ls hP hD hS hl h
  unfold wp_Model_tryOffer_107 at h
  obtain ⟨hi21, h⟩ := h
  refine va_zast hx hb hK hP hD hS 7 1 rfl rfl hi21 d_Model_tryOffer_107 (fun H locs hP hD hS => ?_)
  obtain ⟨μ22, eμ22⟩ : ∃ z, z = s2 μ 6 (Int32.toNatClampNeg y1) (vp_nar .boolean y0) := ⟨_, rfl⟩
  replace hP : va_P D CL (wModel k g μ22) H := by rw [eμ22]; exact hP
  replace hD : va_D A (wModel k g μ22) := by rw [eμ22]; exact hD
  replace h := h μ22 eμ22
  refine lv_iload_n hx hb d_Model_tryOffer_108 rfl (lv_at hl 0 rfl) ?_
  exact ret_i (u := μ22) (wf := (fun u : (St) => wModel k g u)) C hP hD hS (Nat.zero_le _) (Nat.zero_le _) h d_Model_tryOffer_109
set_option maxHeartbeats 4000000 in
set_option maxRecDepth 100000 in
theorem t_Model_tryOffer_87 {p : Program} {l : Launch} {e : Env} {s : State} {m : MethodId} {args : Array Value} {below : List Frame} {meth : Method} {c : Code} {A : Nat → Prop} {D : va_G} {k : Nat → ClassId} {g : Nat → Nat} (C : Cx p s m args meth c D k "PromotionTillModel" b_Model_tryOffer 4 (some .int) A) (N : Nat) (post : Int32 → ((St)) → Prop) :
    ∀ (x2 : Int32) (y0 : Int32) (μ : (St)) (H : Heap) (locs : List Loc) (ls : Array Slot), va_P D CL (wModel k g μ) H → va_D A (wModel k g μ) → va_S A s.heap H locs → lv_has ls 4 [(0, .ref (g 0)), (2, .int x2)] → wp_Model_tryOffer_87 N post x2 y0 μ → W p l e rm_Model_tryOffer s m args below meth c H locs 0 0 (MQ below (va_Qi post (fun (u : (St)) t => va_P D CL (wModel k g u) t.heap ∧ va_D A (wModel k g u)) A) args s rm_Model_tryOffer.cells rm_Model_tryOffer.slots A) (F0 m 87 ls [.int y0]) := by
  obtain ⟨hx, hb, hr, hlk, hml, hown, hts, hK, hA⟩ := id C
  intro x2 y0 μ H locs ls hP hD hS hl h
  unfold wp_Model_tryOffer_87 at h
  refine lv_istore_n (lv' := [(3, .int y0), (0, .ref (g 0)), (2, .int x2)]) hx hb d_Model_tryOffer_87 rfl hl (by decide) rfl (fun ls hl => ?_)
  refine lv_aload_n hx hb d_Model_tryOffer_88 rfl (lv_at hl 1 rfl) ?_
  refine va_get (D := D) (ci := 8) (v := .ref (g 7)) (C := R_Model) (T := F_Model) (N := 40) hx hb hts in_Model hown hK hP 0 rfl rfl 6 (by decide) (hts _ kw_868) (fun _ h9 => h9) rfl d_Model_tryOffer_89 ?_
  refine lv_iload_n hx hb d_Model_tryOffer_92 rfl (lv_at hl 2 rfl) ?_
  refine lv_aload_n hx hb d_Model_tryOffer_93 rfl (lv_at hl 1 rfl) ?_
  refine va_get (D := D) (ci := 8) (v := .ref (g 7)) (C := R_Model) (T := F_Model) (N := 40) hx hb hts in_Model hown hK hP 0 rfl rfl 6 (by decide) (hts _ kw_868) (fun _ h9 => h9) rfl d_Model_tryOffer_94 ?_
  refine lv_iload_n hx hb d_Model_tryOffer_97 rfl (lv_at hl 2 rfl) ?_
  obtain ⟨hi19, h⟩ := h
  refine va_zald hx hb hK hP 7 1 rfl rfl hi19 d_Model_tryOffer_98 ?_
  refine lv_if_ne (tgt := 106) hx hb d_Model_tryOffer_99 (by decide) (fun c20 => ?_) (fun c20 => ?_)
  · replace h := h.1 c20
    refine lv_iconst (v := 0) hx hb d_Model_tryOffer_106 (by decide) ?_
    exact t_Model_tryOffer_107 C N post y0 0 x2 μ _ _ _ hP hD hS (lv_sub hl [0] rfl) h
  · replace h := h.2 c20
    refine lv_iconst (v := 1) hx hb d_Model_tryOffer_102 (by decide) ?_
    refine lv_goto (tgt := 107) hx hb d_Model_tryOffer_103 (by decide) ?_
    exact t_Model_tryOffer_107 C N post y0 1 x2 μ _ _ _ hP hD hS (lv_sub hl [0] rfl) h
set_option maxHeartbeats 4000000 in
set_option maxRecDepth 100000 in
theorem t_Model_tryOffer_69 {p : Program} {l : Launch} {e : Env} {s : State} {m : MethodId} {args : Array Value} {below : List Frame} {meth : Method} {c : Code} {A : Nat → Prop} {D : va_G} {k : Nat → ClassId} {g : Nat → Nat} (C : Cx p s m args meth c D k "PromotionTillModel" b_Model_tryOffer 4 (some .int) A) (N : Nat) (post : Int32 → ((St)) → Prop) :
    ∀ (x2 : Int32) (y0 : Int32) (μ : (St)) (H : Heap) (locs : List Loc) (ls : Array Slot), va_P D CL (wModel k g μ) H → va_D A (wModel k g μ) → va_S A s.heap H locs → lv_has ls 4 [(0, .ref (g 0)), (2, .int x2)] → wp_Model_tryOffer_69 N post x2 y0 μ → W p l e rm_Model_tryOffer s m args below meth c H locs 0 0 (MQ below (va_Qi post (fun (u : (St)) t => va_P D CL (wModel k g u) t.heap ∧ va_D A (wModel k g u)) A) args s rm_Model_tryOffer.cells rm_Model_tryOffer.slots A) (F0 m 69 ls [.int y0, .ref (g 0)]) := by
  obtain ⟨hx, hb, hr, hlk, hml, hown, hts, hK, hA⟩ := id C
  intro x2 y0 μ H locs ls hP hD hS hl h
  unfold wp_Model_tryOffer_69 at h
  refine va_put (D := D) (ci := 8) (v := .int y0) (ty := .int) (C := R_Model) (T := F_Model) (N := 40) hx hb hts in_Model t_Model tt_Model n_Model hown hK hP hD hS 0 rfl rfl 39 (by decide) (hts _ kw_901) (fun _ h9 => h9) rfl (by decide +kernel) rfl rfl (Nat.le_of_ble_eq_true rfl) d_Model_tryOffer_69 (fun H locs hP hD hS => ?_)
  obtain ⟨μ15, eμ15⟩ : ∃ z, z = s2 μ 39 0 y0 := ⟨_, rfl⟩
  replace hP : va_P D CL (wModel k g μ15) H := by rw [eμ15]; exact hP
  replace hD : va_D A (wModel k g μ15) := by rw [eμ15]; exact hD
  replace h := h μ15 eμ15
  refine lv_aload_n hx hb d_Model_tryOffer_72 rfl (lv_at hl 0 rfl) ?_
  refine va_get (D := D) (ci := 8) (v := .int (μ15 39 0)) (C := R_Model) (T := F_Model) (N := 40) hx hb hts in_Model hown hK hP 0 rfl rfl 39 (by decide) (hts _ kw_901) (fun _ h9 => h9) rfl d_Model_tryOffer_73 ?_
  refine lv_if_ne (tgt := 86) hx hb d_Model_tryOffer_76 (by decide) (fun c16 => ?_) (fun c16 => ?_)
  · replace h := h.1 c16
    refine lv_iconst (v := 0) hx hb d_Model_tryOffer_86 (by decide) ?_
    exact t_Model_tryOffer_87 C N post x2 0 μ15 _ _ _ hP hD hS (lv_sub hl [0, 1] rfl) h
  · replace h := h.2 c16
    refine lv_aload_n hx hb d_Model_tryOffer_79 rfl (lv_at hl 0 rfl) ?_
    refine same_i C hP hD hS (runV (As := []) (rest := []) C hP hD (m_Model_leastTotal N g μ15   _ h H.size) kw_1045 kw_1047 kp_31 kw_12 kw_1048 hd_Model_leastTotal ⟨Nat.le_of_ble_eq_true rfl, Nat.le_of_ble_eq_true rfl⟩ ⟨Nat.le_of_ble_eq_true rfl, Nat.le_of_ble_eq_true rfl⟩ 0 rfl rfl rfl rfl hl.1 (Nat.le_of_ble_eq_true rfl) d_Model_tryOffer_80) (fun r18 u17 H locs h hP hD hS => ?_)
    replace hP : va_P D CL (wModel k g u17) H := hP
    replace hD : va_D A (wModel k g u17) := hD
    try dsimp only at h
    refine lv_goto (tgt := 87) hx hb d_Model_tryOffer_83 (by decide) ?_
    exact t_Model_tryOffer_87 C N post x2 r18 u17 _ _ _ hP hD hS (lv_sub hl [0, 1] rfl) h
set_option maxHeartbeats 4000000 in
set_option maxRecDepth 100000 in
theorem t_Model_tryOffer_51 {p : Program} {l : Launch} {e : Env} {s : State} {m : MethodId} {args : Array Value} {below : List Frame} {meth : Method} {c : Code} {A : Nat → Prop} {D : va_G} {k : Nat → ClassId} {g : Nat → Nat} (C : Cx p s m args meth c D k "PromotionTillModel" b_Model_tryOffer 4 (some .int) A) (N : Nat) (post : Int32 → ((St)) → Prop) :
    ∀ (x2 : Int32) (y0 : Int32) (y1 : Int32) (μ : (St)) (H : Heap) (locs : List Loc) (ls : Array Slot), va_P D CL (wModel k g μ) H → va_D A (wModel k g μ) → va_S A s.heap H locs → lv_has ls 4 [(0, .ref (g 0)), (2, .int x2)] → wp_Model_tryOffer_51 N post x2 y0 y1 μ → W p l e rm_Model_tryOffer s m args below meth c H locs 0 0 (MQ below (va_Qi post (fun (u : (St)) t => va_P D CL (wModel k g u) t.heap ∧ va_D A (wModel k g u)) A) args s rm_Model_tryOffer.cells rm_Model_tryOffer.slots A) (F0 m 51 ls [.int y0, .int y1, .ref (g 7)]) := by
  obtain ⟨hx, hb, hr, hlk, hml, hown, hts, hK, hA⟩ := id C
  intro x2 y0 y1 μ H locs ls hP hD hS hl h
  unfold wp_Model_tryOffer_51 at h
  obtain ⟨hi8, h⟩ := h
  refine va_zast hx hb hK hP hD hS 7 1 rfl rfl hi8 d_Model_tryOffer_51 (fun H locs hP hD hS => ?_)
  obtain ⟨μ9, eμ9⟩ : ∃ z, z = s2 μ 6 (Int32.toNatClampNeg y1) (vp_nar .boolean y0) := ⟨_, rfl⟩
  replace hP : va_P D CL (wModel k g μ9) H := by rw [eμ9]; exact hP
  replace hD : va_D A (wModel k g μ9) := by rw [eμ9]; exact hD
  replace h := h μ9 eμ9
  refine lv_aload_n hx hb d_Model_tryOffer_52 rfl (lv_at hl 0 rfl) ?_
  refine same_v C hP hD hS (runV (As := []) (rest := []) C hP hD (m_Model_takeBasket N g μ9   _ h H.size) kw_1012 kw_1014 kp_25 kw_12 kw_1015 hd_Model_takeBasket ⟨Nat.le_of_ble_eq_true rfl, Nat.le_of_ble_eq_true rfl⟩ ⟨Nat.le_of_ble_eq_true rfl, Nat.le_of_ble_eq_true rfl⟩ 0 rfl rfl rfl rfl hl.1 (Nat.le_of_ble_eq_true rfl) d_Model_tryOffer_53) (fun u10 H locs h hP hD hS => ?_)
  replace hP : va_P D CL (wModel k g u10) H := hP
  replace hD : va_D A (wModel k g u10) := hD
  try dsimp only at h
  refine lv_aload_n hx hb d_Model_tryOffer_56 rfl (lv_at hl 0 rfl) ?_
  refine lv_aload_n hx hb d_Model_tryOffer_57 rfl (lv_at hl 0 rfl) ?_
  refine same_i C hP hD hS (runV (As := []) (rest := [.ref (g 0)]) C hP hD (m_Model_fits N g u10   _ h H.size) kw_1016 kw_1018 kp_26 kw_12 kw_1019 hd_Model_fits ⟨Nat.le_of_ble_eq_true rfl, Nat.le_of_ble_eq_true rfl⟩ ⟨Nat.le_of_ble_eq_true rfl, Nat.le_of_ble_eq_true rfl⟩ 0 rfl rfl rfl rfl hl.1 (Nat.le_of_ble_eq_true rfl) d_Model_tryOffer_58) (fun r13 u12 H locs h hP hD hS => ?_)
  replace hP : va_P D CL (wModel k g u10) H := hP
  replace hD : va_D A (wModel k g u10) := hD
  try dsimp only at h
  refine lv_if_eq (tgt := 68) hx hb d_Model_tryOffer_61 (by decide) (fun c14 => ?_) (fun c14 => ?_)
  · replace h := h.1 c14
    refine lv_iconst (v := 2) hx hb d_Model_tryOffer_68 (by decide) ?_
    exact t_Model_tryOffer_69 C N post x2 2 u10 _ _ _ hP hD hS (lv_sub hl [0, 1] rfl) h
  · replace h := h.2 c14
    refine lv_iconst (v := 0) hx hb d_Model_tryOffer_64 (by decide) ?_
    refine lv_goto (tgt := 69) hx hb d_Model_tryOffer_65 (by decide) ?_
    exact t_Model_tryOffer_69 C N post x2 0 u10 _ _ _ hP hD hS (lv_sub hl [0, 1] rfl) h
set_option maxHeartbeats 4000000 in
set_option maxRecDepth 100000 in
theorem t_Model_tryOffer_15 {p : Program} {l : Launch} {e : Env} {s : State} {m : MethodId} {args : Array Value} {below : List Frame} {meth : Method} {c : Code} {A : Nat → Prop} {D : va_G} {k : Nat → ClassId} {g : Nat → Nat} (C : Cx p s m args meth c D k "PromotionTillModel" b_Model_tryOffer 4 (some .int) A) (N : Nat) (post : Int32 → ((St)) → Prop) :
    ∀ (x1 : Int32) (y0 : Int32) (μ : (St)) (H : Heap) (locs : List Loc) (ls : Array Slot), va_P D CL (wModel k g μ) H → va_D A (wModel k g μ) → va_S A s.heap H locs → lv_has ls 4 [(0, .ref (g 0)), (1, .int x1)] → wp_Model_tryOffer_15 N post x1 y0 μ → W p l e rm_Model_tryOffer s m args below meth c H locs 0 0 (MQ below (va_Qi post (fun (u : (St)) t => va_P D CL (wModel k g u) t.heap ∧ va_D A (wModel k g u)) A) args s rm_Model_tryOffer.cells rm_Model_tryOffer.slots A) (F0 m 15 ls [.int y0, .ref (g 0)]) := by
  obtain ⟨hx, hb, hr, hlk, hml, hown, hts, hK, hA⟩ := id C
  intro x1 y0 μ H locs ls hP hD hS hl h
  unfold wp_Model_tryOffer_15 at h
  refine va_put (D := D) (ci := 8) (v := .int y0) (ty := .int) (C := R_Model) (T := F_Model) (N := 40) hx hb hts in_Model t_Model tt_Model n_Model hown hK hP hD hS 0 rfl rfl 39 (by decide) (hts _ kw_901) (fun _ h9 => h9) rfl (by decide +kernel) rfl rfl (Nat.le_of_ble_eq_true rfl) d_Model_tryOffer_15 (fun H locs hP hD hS => ?_)
  obtain ⟨μ4, eμ4⟩ : ∃ z, z = s2 μ 39 0 y0 := ⟨_, rfl⟩
  replace hP : va_P D CL (wModel k g μ4) H := by rw [eμ4]; exact hP
  replace hD : va_D A (wModel k g μ4) := by rw [eμ4]; exact hD
  replace h := h μ4 eμ4
  refine lv_aload_n hx hb d_Model_tryOffer_18 rfl (lv_at hl 0 rfl) ?_
  refine va_get (D := D) (ci := 8) (v := .int (μ4 39 0)) (C := R_Model) (T := F_Model) (N := 40) hx hb hts in_Model hown hK hP 0 rfl rfl 39 (by decide) (hts _ kw_901) (fun _ h9 => h9) rfl d_Model_tryOffer_19 ?_
  refine lv_if_eq (tgt := 27) hx hb d_Model_tryOffer_22 (by decide) (fun c5 => ?_) (fun c5 => ?_)
  · replace h := h.1 c5
    refine lv_bipush (v := 72) hx hb d_Model_tryOffer_27 (by decide) ?_
    refine lv_iload_n hx hb d_Model_tryOffer_29 rfl (lv_at hl 1 rfl) ?_
    refine lv_iadd hx hb d_Model_tryOffer_30 ?_
    refine lv_istore_n (lv' := [(2, .int (72 + x1)), (0, .ref (g 0)), (1, .int x1)]) hx hb d_Model_tryOffer_31 rfl hl (by decide) rfl (fun ls hl => ?_)
    refine lv_aload_n hx hb d_Model_tryOffer_32 rfl (lv_at hl 1 rfl) ?_
    refine va_get (D := D) (ci := 8) (v := .ref (g 7)) (C := R_Model) (T := F_Model) (N := 40) hx hb hts in_Model hown hK hP 0 rfl rfl 6 (by decide) (hts _ kw_868) (fun _ h9 => h9) rfl d_Model_tryOffer_33 ?_
    refine lv_iload_n hx hb d_Model_tryOffer_36 rfl (lv_at hl 0 rfl) ?_
    refine lv_aload_n hx hb d_Model_tryOffer_37 rfl (lv_at hl 1 rfl) ?_
    refine va_get (D := D) (ci := 8) (v := .ref (g 7)) (C := R_Model) (T := F_Model) (N := 40) hx hb hts in_Model hown hK hP 0 rfl rfl 6 (by decide) (hts _ kw_868) (fun _ h9 => h9) rfl d_Model_tryOffer_38 ?_
    refine lv_iload_n hx hb d_Model_tryOffer_41 rfl (lv_at hl 0 rfl) ?_
    obtain ⟨hi6, h⟩ := h
    refine va_zald hx hb hK hP 7 1 rfl rfl hi6 d_Model_tryOffer_42 ?_
    refine lv_if_ne (tgt := 50) hx hb d_Model_tryOffer_43 (by decide) (fun c7 => ?_) (fun c7 => ?_)
    · replace h := h.1 c7
      refine lv_iconst (v := 0) hx hb d_Model_tryOffer_50 (by decide) ?_
      exact t_Model_tryOffer_51 C N post (72 + x1) 0 (72 + x1) μ4 _ _ _ hP hD hS (lv_sub hl [1, 0] rfl) h
    · replace h := h.2 c7
      refine lv_iconst (v := 1) hx hb d_Model_tryOffer_46 (by decide) ?_
      refine lv_goto (tgt := 51) hx hb d_Model_tryOffer_47 (by decide) ?_
      exact t_Model_tryOffer_51 C N post (72 + x1) 1 (72 + x1) μ4 _ _ _ hP hD hS (lv_sub hl [1, 0] rfl) h
  · replace h := h.2 c5
    refine lv_iconst (v := 0) hx hb d_Model_tryOffer_25 (by decide) ?_
    exact ret_i (u := μ4) (wf := (fun u : (St) => wModel k g u)) C hP hD hS (Nat.zero_le _) (Nat.zero_le _) h d_Model_tryOffer_26
set_option maxHeartbeats 4000000 in
set_option maxRecDepth 100000 in
theorem m_Model_tryOffer {l : Launch} {D : va_G} {k : Nat → ClassId} (N : Nat) (g : Nat → Nat) (μ : St) (x1 : Int32) (post : Int32 → ((St)) → Prop) (h : wp_Model_tryOffer N  μ x1 post) : Ci l D k y_Model_tryOffer b_Model_tryOffer 4 .int rm_Model_tryOffer [.ref (g 0), .int x1] (wModel k g μ) (fun u : (St) => wModel k g u) post := by
  refine Ci.of (by decide) (Nat.le_of_ble_eq_true rfl) ?_
  intro p e s m below meth c A H locs ls C hP hD hS hl
  obtain ⟨hx, hb, hr, hlk, hml, hown, hts, hK, hA⟩ := id C
  replace hl : lv_has ls 4 [(0, .ref (g 0)), (1, .int x1)] := hl
  unfold wp_Model_tryOffer at h
  refine lv_aload_n hx hb d_Model_tryOffer_0 rfl (lv_at hl 0 rfl) ?_
  refine lv_iload_n hx hb d_Model_tryOffer_1 rfl (lv_at hl 1 rfl) ?_
  refine lv_iconst (v := 0) hx hb d_Model_tryOffer_2 (by decide) ?_
  refine lv_iconst (v := 5) hx hb d_Model_tryOffer_3 (by decide) ?_
  refine none_i C hP hD hS (runS (As := [.int x1, .int 0, .int 5]) (rest := [.ref (g 0)]) C nilP nilD (m_Model_within N   x1 0 5  _ h H.size) kw_991 kw_992 kw_12 kw_993 (hd_Model_within).2 ⟨Nat.le_of_ble_eq_true rfl, Nat.le_of_ble_eq_true rfl⟩ ⟨Nat.le_of_ble_eq_true rfl, Nat.le_of_ble_eq_true rfl⟩ rfl hl.1 (Nat.le_of_ble_eq_true rfl) d_Model_tryOffer_4) (fun r2 u1 H locs h hP hD hS => ?_)
  try dsimp only at h
  refine lv_if_eq (tgt := 14) hx hb d_Model_tryOffer_7 (by decide) (fun c3 => ?_) (fun c3 => ?_)
  · replace h := h.1 c3
    refine lv_iconst (v := 1) hx hb d_Model_tryOffer_14 (by decide) ?_
    exact t_Model_tryOffer_15 C N post x1 1 μ _ _ _ hP hD hS (lv_sub hl [0, 1] rfl) h
  · replace h := h.2 c3
    refine lv_iconst (v := 0) hx hb d_Model_tryOffer_10 (by decide) ?_
    refine lv_goto (tgt := 15) hx hb d_Model_tryOffer_11 (by decide) ?_
    exact t_Model_tryOffer_15 C N post x1 0 μ _ _ _ hP hD hS (lv_sub hl [0, 1] rfl) h
set_option maxHeartbeats 4000000 in
set_option maxRecDepth 100000 in
theorem t_Model_copyOffers_89 {p : Program} {l : Launch} {e : Env} {s : State} {m : MethodId} {args : Array Value} {below : List Frame} {meth : Method} {c : Code} {A : Nat → Prop} {D : va_G} {k : Nat → ClassId} {g : Nat → Nat} (C : Cx p s m args meth c D k "PromotionTillModel" b_Model_copyOffers 6 none A) (N : Nat) (post : ((St)) → Prop) (K_2 : Int32 → Int32 → (St) → Prop) (hK_2 : ∀ (x1 : Int32) (x2 : Int32) (μ : (St)) (H : Heap) (locs : List Loc) (ls : Array Slot), va_P D CL (wModel k g μ) H → va_D A (wModel k g μ) → va_S A s.heap H locs → lv_has ls 6 [(0, .ref (g 0)), (1, .int x1), (2, .int x2)] → K_2 x1 x2 μ → W p l e rm_Model_copyOffers s m args below meth c H locs 0 0 (MQ below (va_Qv post (fun (u : (St)) t => va_P D CL (wModel k g u) t.heap ∧ va_D A (wModel k g u)) A) args s rm_Model_copyOffers.cells rm_Model_copyOffers.slots A) (F0 m 2 ls [])) :
    ∀ (n : Nat) (x1 : Int32) (x2 : Int32) (x3 : Int32) (x4 : Int32) (x5 : Int32) (μ : (St)) (H : Heap) (locs : List Loc) (ls : Array Slot), va_P D CL (wModel k g μ) H → va_D A (wModel k g μ) → va_S A s.heap H locs → lv_has ls 6 [(0, .ref (g 0)), (1, .int x1), (2, .int x2), (3, .int x3), (4, .int x4), (5, .int x5)] → wp_Model_copyOffers_89 N post K_2 n x1 x2 x3 x4 x5 μ → W p l e rm_Model_copyOffers s m args below meth c H locs 0 0 (MQ below (va_Qv post (fun (u : (St)) t => va_P D CL (wModel k g u) t.heap ∧ va_D A (wModel k g u)) A) args s rm_Model_copyOffers.cells rm_Model_copyOffers.slots A) (F0 m 89 ls []) := by
  obtain ⟨hx, hb, hr, hlk, hml, hown, hts, hK, hA⟩ := id C
  intro n
  induction n with
  | zero =>
    intro x1 x2 x3 x4 x5 μ H locs ls hP hD hS hl h
    exact absurd h (by simp [wp_Model_copyOffers_89])
  | succ n ih =>
    intro x1 x2 x3 x4 x5 μ H locs ls hP hD hS hl h
    rw [wp_Model_copyOffers_89] at h
    refine lv_iload hx hb d_Model_copyOffers_89 (lv_at hl 5 rfl) ?_
    refine lv_iconst (v := 4) hx hb d_Model_copyOffers_91 (by decide) ?_
    refine lv_icmp_ge (tgt := 124) hx hb d_Model_copyOffers_92 (by decide) (fun c17 => ?_) (fun c17 => ?_)
    · replace h := h.1 c17
      refine lv_iinc (v := x2 + 1) (lv' := [(2, .int (x2 + 1)), (0, .ref (g 0)), (1, .int x1), (3, .int x3), (4, .int x4), (5, .int x5)]) hx hb d_Model_copyOffers_124 hl (k := 2) rfl rfl (by decide) rfl (fun ls hl => ?_)
      refine lv_goto (tgt := 2) hx hb d_Model_copyOffers_127 (by decide) ?_
      exact hK_2 x1 (x2 + 1) μ _ _ _ hP hD hS (lv_sub hl [1, 2, 0] rfl) h
    · replace h := h.2 c17
      refine lv_aload_n hx hb d_Model_copyOffers_95 rfl (lv_at hl 0 rfl) ?_
      refine va_get (D := D) (ci := 8) (v := .ref (g 8)) (C := R_Model) (T := F_Model) (N := 40) hx hb hts in_Model hown hK hP 0 rfl rfl 7 (by decide) (hts _ kw_869) (fun _ h9 => h9) rfl d_Model_copyOffers_96 ?_
      refine lv_iconst (v := 4) hx hb d_Model_copyOffers_99 (by decide) ?_
      refine lv_iload hx hb d_Model_copyOffers_100 (lv_at hl 4 rfl) ?_
      refine lv_imul hx hb d_Model_copyOffers_102 ?_
      refine lv_iload hx hb d_Model_copyOffers_103 (lv_at hl 5 rfl) ?_
      refine lv_iadd hx hb d_Model_copyOffers_105 ?_
      refine lv_aload_n hx hb d_Model_copyOffers_106 rfl (lv_at hl 0 rfl) ?_
      refine va_get (D := D) (ci := 8) (v := .ref (g 8)) (C := R_Model) (T := F_Model) (N := 40) hx hb hts in_Model hown hK hP 0 rfl rfl 7 (by decide) (hts _ kw_869) (fun _ h9 => h9) rfl d_Model_copyOffers_107 ?_
      refine lv_iconst (v := 4) hx hb d_Model_copyOffers_110 (by decide) ?_
      refine lv_iload_n hx hb d_Model_copyOffers_111 rfl (lv_at hl 3 rfl) ?_
      refine lv_imul hx hb d_Model_copyOffers_112 ?_
      refine lv_iload hx hb d_Model_copyOffers_113 (lv_at hl 5 rfl) ?_
      refine lv_iadd hx hb d_Model_copyOffers_115 ?_
      obtain ⟨hi18, h⟩ := h
      refine va_iald hx hb hK hP 8 0 rfl rfl hi18 d_Model_copyOffers_116 ?_
      obtain ⟨hi19, h⟩ := h
      refine va_iast hx hb hK hP hD hS 8 0 rfl rfl hi19 d_Model_copyOffers_117 (fun H locs hP hD hS => ?_)
      obtain ⟨μ20, eμ20⟩ : ∃ z, z = s2 μ 7 (Int32.toNatClampNeg ((4 * x4) + x5)) (μ 7 (Int32.toNatClampNeg ((4 * x3) + x5))) := ⟨_, rfl⟩
      replace hP : va_P D CL (wModel k g μ20) H := by rw [eμ20]; exact hP
      replace hD : va_D A (wModel k g μ20) := by rw [eμ20]; exact hD
      replace h := h μ20 eμ20
      refine lv_iinc (v := x5 + 1) (lv' := [(5, .int (x5 + 1)), (0, .ref (g 0)), (1, .int x1), (2, .int x2), (3, .int x3), (4, .int x4)]) hx hb d_Model_copyOffers_118 hl (k := 5) rfl rfl (by decide) rfl (fun ls hl => ?_)
      refine lv_goto (tgt := 89) hx hb d_Model_copyOffers_121 (by decide) ?_
      exact ih x1 x2 x3 x4 (x5 + 1) μ20 _ _ _ hP hD hS (lv_sub hl [1, 2, 3, 4, 5, 0] rfl) h
set_option maxHeartbeats 4000000 in
set_option maxRecDepth 100000 in
theorem t_Model_copyOffers_2 {p : Program} {l : Launch} {e : Env} {s : State} {m : MethodId} {args : Array Value} {below : List Frame} {meth : Method} {c : Code} {A : Nat → Prop} {D : va_G} {k : Nat → ClassId} {g : Nat → Nat} (C : Cx p s m args meth c D k "PromotionTillModel" b_Model_copyOffers 6 none A) (N : Nat) (post : ((St)) → Prop) :
    ∀ (n : Nat) (x1 : Int32) (x2 : Int32) (μ : (St)) (H : Heap) (locs : List Loc) (ls : Array Slot), va_P D CL (wModel k g μ) H → va_D A (wModel k g μ) → va_S A s.heap H locs → lv_has ls 6 [(0, .ref (g 0)), (1, .int x1), (2, .int x2)] → wp_Model_copyOffers_2 N post n x1 x2 μ → W p l e rm_Model_copyOffers s m args below meth c H locs 0 0 (MQ below (va_Qv post (fun (u : (St)) t => va_P D CL (wModel k g u) t.heap ∧ va_D A (wModel k g u)) A) args s rm_Model_copyOffers.cells rm_Model_copyOffers.slots A) (F0 m 2 ls []) := by
  obtain ⟨hx, hb, hr, hlk, hml, hown, hts, hK, hA⟩ := id C
  intro n
  induction n with
  | zero =>
    intro x1 x2 μ H locs ls hP hD hS hl h
    exact absurd h (by simp [wp_Model_copyOffers_2])
  | succ n ih =>
    intro x1 x2 μ H locs ls hP hD hS hl h
    rw [wp_Model_copyOffers_2] at h
    refine lv_iload_n hx hb d_Model_copyOffers_2 rfl (lv_at hl 2 rfl) ?_
    refine lv_bipush (v := 6) hx hb d_Model_copyOffers_3 (by decide) ?_
    refine lv_icmp_ge (tgt := 130) hx hb d_Model_copyOffers_5 (by decide) (fun c1 => ?_) (fun c1 => ?_)
    · replace h := h.1 c1
      exact ret_v (u := μ) (wf := (fun u : (St) => wModel k g u)) C hP hD hS (Nat.zero_le _) (Nat.zero_le _) h d_Model_copyOffers_130
    · replace h := h.2 c1
      refine lv_bipush (v := 72) hx hb d_Model_copyOffers_8 (by decide) ?_
      refine lv_iload_n hx hb d_Model_copyOffers_10 rfl (lv_at hl 2 rfl) ?_
      refine lv_iadd hx hb d_Model_copyOffers_11 ?_
      refine lv_istore_n (lv' := [(3, .int (72 + x2)), (0, .ref (g 0)), (1, .int x1), (2, .int x2)]) hx hb d_Model_copyOffers_12 rfl hl (by decide) rfl (fun ls hl => ?_)
      refine lv_bipush (v := 6) hx hb d_Model_copyOffers_13 (by decide) ?_
      refine lv_iload_n hx hb d_Model_copyOffers_15 rfl (lv_at hl 2 rfl) ?_
      refine lv_imul hx hb d_Model_copyOffers_16 ?_
      refine lv_iload_n hx hb d_Model_copyOffers_17 rfl (lv_at hl 3 rfl) ?_
      refine lv_iadd hx hb d_Model_copyOffers_18 ?_
      refine lv_istore (lv' := [(4, .int ((6 * x1) + x2)), (3, .int (72 + x2)), (0, .ref (g 0)), (1, .int x1), (2, .int x2)]) hx hb d_Model_copyOffers_19 hl (by decide) rfl (fun ls hl => ?_)
      refine lv_aload_n hx hb d_Model_copyOffers_21 rfl (lv_at hl 2 rfl) ?_
      refine va_get (D := D) (ci := 8) (v := .ref (g 3)) (C := R_Model) (T := F_Model) (N := 40) hx hb hts in_Model hown hK hP 0 rfl rfl 2 (by decide) (hts _ kw_864) (fun _ h9 => h9) rfl d_Model_copyOffers_22 ?_
      refine lv_iload hx hb d_Model_copyOffers_25 (lv_at hl 0 rfl) ?_
      refine lv_aload_n hx hb d_Model_copyOffers_27 rfl (lv_at hl 2 rfl) ?_
      refine va_get (D := D) (ci := 8) (v := .ref (g 3)) (C := R_Model) (T := F_Model) (N := 40) hx hb hts in_Model hown hK hP 0 rfl rfl 2 (by decide) (hts _ kw_864) (fun _ h9 => h9) rfl d_Model_copyOffers_28 ?_
      refine lv_iload_n hx hb d_Model_copyOffers_31 rfl (lv_at hl 1 rfl) ?_
      obtain ⟨hi2, h⟩ := h
      refine va_iald hx hb hK hP 3 0 rfl rfl hi2 d_Model_copyOffers_32 ?_
      obtain ⟨hi3, h⟩ := h
      refine va_iast hx hb hK hP hD hS 3 0 rfl rfl hi3 d_Model_copyOffers_33 (fun H locs hP hD hS => ?_)
      obtain ⟨μ4, eμ4⟩ : ∃ z, z = s2 μ 2 (Int32.toNatClampNeg ((6 * x1) + x2)) (μ 2 (Int32.toNatClampNeg (72 + x2))) := ⟨_, rfl⟩
      replace hP : va_P D CL (wModel k g μ4) H := by rw [eμ4]; exact hP
      replace hD : va_D A (wModel k g μ4) := by rw [eμ4]; exact hD
      replace h := h μ4 eμ4
      refine lv_aload_n hx hb d_Model_copyOffers_34 rfl (lv_at hl 2 rfl) ?_
      refine va_get (D := D) (ci := 8) (v := .ref (g 4)) (C := R_Model) (T := F_Model) (N := 40) hx hb hts in_Model hown hK hP 0 rfl rfl 3 (by decide) (hts _ kw_865) (fun _ h9 => h9) rfl d_Model_copyOffers_35 ?_
      refine lv_iload hx hb d_Model_copyOffers_38 (lv_at hl 0 rfl) ?_
      refine lv_aload_n hx hb d_Model_copyOffers_40 rfl (lv_at hl 2 rfl) ?_
      refine va_get (D := D) (ci := 8) (v := .ref (g 4)) (C := R_Model) (T := F_Model) (N := 40) hx hb hts in_Model hown hK hP 0 rfl rfl 3 (by decide) (hts _ kw_865) (fun _ h9 => h9) rfl d_Model_copyOffers_41 ?_
      refine lv_iload_n hx hb d_Model_copyOffers_44 rfl (lv_at hl 1 rfl) ?_
      obtain ⟨hi5, h⟩ := h
      refine va_iald hx hb hK hP 4 0 rfl rfl hi5 d_Model_copyOffers_45 ?_
      obtain ⟨hi6, h⟩ := h
      refine va_iast hx hb hK hP hD hS 4 0 rfl rfl hi6 d_Model_copyOffers_46 (fun H locs hP hD hS => ?_)
      obtain ⟨μ7, eμ7⟩ : ∃ z, z = s2 μ4 3 (Int32.toNatClampNeg ((6 * x1) + x2)) (μ4 3 (Int32.toNatClampNeg (72 + x2))) := ⟨_, rfl⟩
      replace hP : va_P D CL (wModel k g μ7) H := by rw [eμ7]; exact hP
      replace hD : va_D A (wModel k g μ7) := by rw [eμ7]; exact hD
      replace h := h μ7 eμ7
      refine lv_aload_n hx hb d_Model_copyOffers_47 rfl (lv_at hl 2 rfl) ?_
      refine va_get (D := D) (ci := 8) (v := .ref (g 5)) (C := R_Model) (T := F_Model) (N := 40) hx hb hts in_Model hown hK hP 0 rfl rfl 4 (by decide) (hts _ kw_866) (fun _ h9 => h9) rfl d_Model_copyOffers_48 ?_
      refine lv_iload hx hb d_Model_copyOffers_51 (lv_at hl 0 rfl) ?_
      refine lv_aload_n hx hb d_Model_copyOffers_53 rfl (lv_at hl 2 rfl) ?_
      refine va_get (D := D) (ci := 8) (v := .ref (g 5)) (C := R_Model) (T := F_Model) (N := 40) hx hb hts in_Model hown hK hP 0 rfl rfl 4 (by decide) (hts _ kw_866) (fun _ h9 => h9) rfl d_Model_copyOffers_54 ?_
      refine lv_iload_n hx hb d_Model_copyOffers_57 rfl (lv_at hl 1 rfl) ?_
      obtain ⟨hi8, h⟩ := h
      refine va_iald hx hb hK hP 5 0 rfl rfl hi8 d_Model_copyOffers_58 ?_
      obtain ⟨hi9, h⟩ := h
      refine va_iast hx hb hK hP hD hS 5 0 rfl rfl hi9 d_Model_copyOffers_59 (fun H locs hP hD hS => ?_)
      obtain ⟨μ10, eμ10⟩ : ∃ z, z = s2 μ7 4 (Int32.toNatClampNeg ((6 * x1) + x2)) (μ7 4 (Int32.toNatClampNeg (72 + x2))) := ⟨_, rfl⟩
      replace hP : va_P D CL (wModel k g μ10) H := by rw [eμ10]; exact hP
      replace hD : va_D A (wModel k g μ10) := by rw [eμ10]; exact hD
      replace h := h μ10 eμ10
      refine lv_aload_n hx hb d_Model_copyOffers_60 rfl (lv_at hl 2 rfl) ?_
      refine va_get (D := D) (ci := 8) (v := .ref (g 6)) (C := R_Model) (T := F_Model) (N := 40) hx hb hts in_Model hown hK hP 0 rfl rfl 5 (by decide) (hts _ kw_867) (fun _ h9 => h9) rfl d_Model_copyOffers_61 ?_
      refine lv_iload hx hb d_Model_copyOffers_64 (lv_at hl 0 rfl) ?_
      refine lv_aload_n hx hb d_Model_copyOffers_66 rfl (lv_at hl 2 rfl) ?_
      refine va_get (D := D) (ci := 8) (v := .ref (g 6)) (C := R_Model) (T := F_Model) (N := 40) hx hb hts in_Model hown hK hP 0 rfl rfl 5 (by decide) (hts _ kw_867) (fun _ h9 => h9) rfl d_Model_copyOffers_67 ?_
      refine lv_iload_n hx hb d_Model_copyOffers_70 rfl (lv_at hl 1 rfl) ?_
      obtain ⟨hi11, h⟩ := h
      refine va_iald hx hb hK hP 6 0 rfl rfl hi11 d_Model_copyOffers_71 ?_
      obtain ⟨hi12, h⟩ := h
      refine va_iast hx hb hK hP hD hS 6 0 rfl rfl hi12 d_Model_copyOffers_72 (fun H locs hP hD hS => ?_)
      obtain ⟨μ13, eμ13⟩ : ∃ z, z = s2 μ10 5 (Int32.toNatClampNeg ((6 * x1) + x2)) (μ10 5 (Int32.toNatClampNeg (72 + x2))) := ⟨_, rfl⟩
      replace hP : va_P D CL (wModel k g μ13) H := by rw [eμ13]; exact hP
      replace hD : va_D A (wModel k g μ13) := by rw [eμ13]; exact hD
      replace h := h μ13 eμ13
      refine lv_aload_n hx hb d_Model_copyOffers_73 rfl (lv_at hl 2 rfl) ?_
      refine va_get (D := D) (ci := 8) (v := .ref (g 7)) (C := R_Model) (T := F_Model) (N := 40) hx hb hts in_Model hown hK hP 0 rfl rfl 6 (by decide) (hts _ kw_868) (fun _ h9 => h9) rfl d_Model_copyOffers_74 ?_
      refine lv_iload hx hb d_Model_copyOffers_77 (lv_at hl 0 rfl) ?_
      refine lv_aload_n hx hb d_Model_copyOffers_79 rfl (lv_at hl 2 rfl) ?_
      refine va_get (D := D) (ci := 8) (v := .ref (g 7)) (C := R_Model) (T := F_Model) (N := 40) hx hb hts in_Model hown hK hP 0 rfl rfl 6 (by decide) (hts _ kw_868) (fun _ h9 => h9) rfl d_Model_copyOffers_80 ?_
      refine lv_iload_n hx hb d_Model_copyOffers_83 rfl (lv_at hl 1 rfl) ?_
      obtain ⟨hi14, h⟩ := h
      refine va_zald hx hb hK hP 7 1 rfl rfl hi14 d_Model_copyOffers_84 ?_
      obtain ⟨hi15, h⟩ := h
      refine va_zast hx hb hK hP hD hS 7 1 rfl rfl hi15 d_Model_copyOffers_85 (fun H locs hP hD hS => ?_)
      obtain ⟨μ16, eμ16⟩ : ∃ z, z = s2 μ13 6 (Int32.toNatClampNeg ((6 * x1) + x2)) (vp_nar .boolean (μ13 6 (Int32.toNatClampNeg (72 + x2)))) := ⟨_, rfl⟩
      replace hP : va_P D CL (wModel k g μ16) H := by rw [eμ16]; exact hP
      replace hD : va_D A (wModel k g μ16) := by rw [eμ16]; exact hD
      replace h := h μ16 eμ16
      refine lv_iconst (v := 0) hx hb d_Model_copyOffers_86 (by decide) ?_
      refine lv_istore (lv' := [(5, .int 0), (4, .int ((6 * x1) + x2)), (3, .int (72 + x2)), (0, .ref (g 0)), (1, .int x1), (2, .int x2)]) hx hb d_Model_copyOffers_87 hl (by decide) rfl (fun ls hl => ?_)
      exact t_Model_copyOffers_89 C N post (wp_Model_copyOffers_2 N post n) ih N x1 x2 (72 + x2) ((6 * x1) + x2) 0 μ16 _ _ _ hP hD hS (lv_sub hl [3, 4, 5, 2, 1, 0] rfl) h
set_option maxHeartbeats 4000000 in
set_option maxRecDepth 100000 in
theorem m_Model_copyOffers {l : Launch} {D : va_G} {k : Nat → ClassId} (N : Nat) (g : Nat → Nat) (μ : St) (x1 : Int32) (post : ((St)) → Prop) (h : wp_Model_copyOffers N  μ x1 post) : Cv l D k y_Model_copyOffers b_Model_copyOffers 6 rm_Model_copyOffers [.ref (g 0), .int x1] (wModel k g μ) (fun u : (St) => wModel k g u) post := by
  refine Cv.of (by decide) (Nat.le_of_ble_eq_true rfl) ?_
  intro p e s m below meth c A H locs ls C hP hD hS hl
  obtain ⟨hx, hb, hr, hlk, hml, hown, hts, hK, hA⟩ := id C
  replace hl : lv_has ls 6 [(0, .ref (g 0)), (1, .int x1)] := hl
  unfold wp_Model_copyOffers at h
  refine lv_iconst (v := 0) hx hb d_Model_copyOffers_0 (by decide) ?_
  refine lv_istore_n (lv' := [(2, .int 0), (0, .ref (g 0)), (1, .int x1)]) hx hb d_Model_copyOffers_1 rfl hl (by decide) rfl (fun ls hl => ?_)
  exact t_Model_copyOffers_2 C N post   N x1 0 μ _ _ _ hP hD hS (lv_sub hl [1, 2, 0] rfl) h
set_option maxHeartbeats 4000000 in
set_option maxRecDepth 100000 in
theorem t_Model_finish_124 {p : Program} {l : Launch} {e : Env} {s : State} {m : MethodId} {args : Array Value} {below : List Frame} {meth : Method} {c : Code} {A : Nat → Prop} {D : va_G} {k : Nat → ClassId} {g : Nat → Nat} (C : Cx p s m args meth c D k "PromotionTillModel" b_Model_finish 5 (some .int) A) (N : Nat) (post : Int32 → ((St)) → Prop) :
    ∀ (n : Nat) (x1 : Int32) (x2 : Int32) (x3 : Int32) (x4 : Int32) (μ : (St)) (H : Heap) (locs : List Loc) (ls : Array Slot), va_P D CL (wModel k g μ) H → va_D A (wModel k g μ) → va_S A s.heap H locs → lv_has ls 5 [(0, .ref (g 0)), (1, .int x1), (2, .int x2), (3, .int x3), (4, .int x4)] → wp_Model_finish_124 N post n x1 x2 x3 x4 μ → W p l e rm_Model_finish s m args below meth c H locs 0 0 (MQ below (va_Qi post (fun (u : (St)) t => va_P D CL (wModel k g u) t.heap ∧ va_D A (wModel k g u)) A) args s rm_Model_finish.cells rm_Model_finish.slots A) (F0 m 124 ls []) := by
  obtain ⟨hx, hb, hr, hlk, hml, hown, hts, hK, hA⟩ := id C
  intro n
  induction n with
  | zero =>
    intro x1 x2 x3 x4 μ H locs ls hP hD hS hl h
    exact absurd h (by simp [wp_Model_finish_124])
  | succ n ih =>
    intro x1 x2 x3 x4 μ H locs ls hP hD hS hl h
    rw [wp_Model_finish_124] at h
    refine lv_iload hx hb d_Model_finish_124 (lv_at hl 4 rfl) ?_
    refine lv_aload_n hx hb d_Model_finish_126 rfl (lv_at hl 0 rfl) ?_
    refine va_get (D := D) (ci := 8) (v := .int (μ 9 0)) (C := R_Model) (T := F_Model) (N := 40) hx hb hts in_Model hown hK hP 0 rfl rfl 9 (by decide) (hts _ kw_871) (fun _ h9 => h9) rfl d_Model_finish_127 ?_
    refine lv_icmp_ge (tgt := 215) hx hb d_Model_finish_130 (by decide) (fun c22 => ?_) (fun c22 => ?_)
    · replace h := h.1 c22
      refine lv_aload_n hx hb d_Model_finish_215 rfl (lv_at hl 0 rfl) ?_
      refine lv_iconst (v := 0) hx hb d_Model_finish_216 (by decide) ?_
      refine va_put (D := D) (ci := 8) (v := .int 0) (ty := .int) (C := R_Model) (T := F_Model) (N := 40) hx hb hts in_Model t_Model tt_Model n_Model hown hK hP hD hS 0 rfl rfl 9 (by decide) (hts _ kw_871) (fun _ h9 => h9) rfl (by decide +kernel) rfl rfl (Nat.le_of_ble_eq_true rfl) d_Model_finish_217 (fun H locs hP hD hS => ?_)
      obtain ⟨μ23, eμ23⟩ : ∃ z, z = s2 μ 9 0 0 := ⟨_, rfl⟩
      replace hP : va_P D CL (wModel k g μ23) H := by rw [eμ23]; exact hP
      replace hD : va_D A (wModel k g μ23) := by rw [eμ23]; exact hD
      replace h := h μ23 eμ23
      refine lv_iload_n hx hb d_Model_finish_220 rfl (lv_at hl 1 rfl) ?_
      refine lv_iload_n hx hb d_Model_finish_221 rfl (lv_at hl 2 rfl) ?_
      refine lv_isub hx hb d_Model_finish_222 ?_
      exact ret_i (u := μ23) (wf := (fun u : (St) => wModel k g u)) C hP hD hS (Nat.zero_le _) (Nat.zero_le _) h d_Model_finish_223
    · replace h := h.2 c22
      refine lv_aload_n hx hb d_Model_finish_133 rfl (lv_at hl 0 rfl) ?_
      refine va_get (D := D) (ci := 8) (v := .ref (g 13)) (C := R_Model) (T := F_Model) (N := 40) hx hb hts in_Model hown hK hP 0 rfl rfl 15 (by decide) (hts _ kw_877) (fun _ h9 => h9) rfl d_Model_finish_134 ?_
      refine lv_bipush (v := 10) hx hb d_Model_finish_137 (by decide) ?_
      refine lv_iload_n hx hb d_Model_finish_139 rfl (lv_at hl 3 rfl) ?_
      refine lv_imul hx hb d_Model_finish_140 ?_
      refine lv_iload hx hb d_Model_finish_141 (lv_at hl 4 rfl) ?_
      refine lv_iadd hx hb d_Model_finish_143 ?_
      refine lv_aload_n hx hb d_Model_finish_144 rfl (lv_at hl 0 rfl) ?_
      refine va_get (D := D) (ci := 8) (v := .ref (g 9)) (C := R_Model) (T := F_Model) (N := 40) hx hb hts in_Model hown hK hP 0 rfl rfl 8 (by decide) (hts _ kw_870) (fun _ h9 => h9) rfl d_Model_finish_145 ?_
      refine lv_iload hx hb d_Model_finish_148 (lv_at hl 4 rfl) ?_
      obtain ⟨hi24, h⟩ := h
      refine va_iald hx hb hK hP 9 0 rfl rfl hi24 d_Model_finish_150 ?_
      obtain ⟨hi25, h⟩ := h
      refine va_iast hx hb hK hP hD hS 13 0 rfl rfl hi25 d_Model_finish_151 (fun H locs hP hD hS => ?_)
      obtain ⟨μ26, eμ26⟩ : ∃ z, z = s2 μ 15 (Int32.toNatClampNeg ((10 * x3) + x4)) (μ 8 (Int32.toNatClampNeg x4)) := ⟨_, rfl⟩
      replace hP : va_P D CL (wModel k g μ26) H := by rw [eμ26]; exact hP
      replace hD : va_D A (wModel k g μ26) := by rw [eμ26]; exact hD
      replace h := h μ26 eμ26
      refine lv_aload_n hx hb d_Model_finish_152 rfl (lv_at hl 0 rfl) ?_
      refine va_get (D := D) (ci := 8) (v := .ref (g 14)) (C := R_Model) (T := F_Model) (N := 40) hx hb hts in_Model hown hK hP 0 rfl rfl 16 (by decide) (hts _ kw_878) (fun _ h9 => h9) rfl d_Model_finish_153 ?_
      refine lv_bipush (v := 10) hx hb d_Model_finish_156 (by decide) ?_
      refine lv_iload_n hx hb d_Model_finish_158 rfl (lv_at hl 3 rfl) ?_
      refine lv_imul hx hb d_Model_finish_159 ?_
      refine lv_iload hx hb d_Model_finish_160 (lv_at hl 4 rfl) ?_
      refine lv_iadd hx hb d_Model_finish_162 ?_
      refine lv_aload_n hx hb d_Model_finish_163 rfl (lv_at hl 0 rfl) ?_
      refine va_get (D := D) (ci := 8) (v := .ref (g 19)) (C := R_Model) (T := F_Model) (N := 40) hx hb hts in_Model hown hK hP 0 rfl rfl 21 (by decide) (hts _ kw_883) (fun _ h9 => h9) rfl d_Model_finish_164 ?_
      refine lv_iload hx hb d_Model_finish_167 (lv_at hl 4 rfl) ?_
      obtain ⟨hi27, h⟩ := h
      refine va_iald hx hb hK hP 19 0 rfl rfl hi27 d_Model_finish_169 ?_
      obtain ⟨hi28, h⟩ := h
      refine va_iast hx hb hK hP hD hS 14 0 rfl rfl hi28 d_Model_finish_170 (fun H locs hP hD hS => ?_)
      obtain ⟨μ29, eμ29⟩ : ∃ z, z = s2 μ26 16 (Int32.toNatClampNeg ((10 * x3) + x4)) (μ26 21 (Int32.toNatClampNeg x4)) := ⟨_, rfl⟩
      replace hP : va_P D CL (wModel k g μ29) H := by rw [eμ29]; exact hP
      replace hD : va_D A (wModel k g μ29) := by rw [eμ29]; exact hD
      replace h := h μ29 eμ29
      refine lv_aload_n hx hb d_Model_finish_171 rfl (lv_at hl 0 rfl) ?_
      refine va_get (D := D) (ci := 8) (v := .ref (g 15)) (C := R_Model) (T := F_Model) (N := 40) hx hb hts in_Model hown hK hP 0 rfl rfl 17 (by decide) (hts _ kw_879) (fun _ h9 => h9) rfl d_Model_finish_172 ?_
      refine lv_bipush (v := 10) hx hb d_Model_finish_175 (by decide) ?_
      refine lv_iload_n hx hb d_Model_finish_177 rfl (lv_at hl 3 rfl) ?_
      refine lv_imul hx hb d_Model_finish_178 ?_
      refine lv_iload hx hb d_Model_finish_179 (lv_at hl 4 rfl) ?_
      refine lv_iadd hx hb d_Model_finish_181 ?_
      refine lv_aload_n hx hb d_Model_finish_182 rfl (lv_at hl 0 rfl) ?_
      refine va_get (D := D) (ci := 8) (v := .ref (g 27)) (C := R_Model) (T := F_Model) (N := 40) hx hb hts in_Model hown hK hP 0 rfl rfl 34 (by decide) (hts _ kw_896) (fun _ h9 => h9) rfl d_Model_finish_183 ?_
      refine lv_iload hx hb d_Model_finish_186 (lv_at hl 4 rfl) ?_
      obtain ⟨hi30, h⟩ := h
      refine va_iald hx hb hK hP 27 0 rfl rfl hi30 d_Model_finish_188 ?_
      obtain ⟨hi31, h⟩ := h
      refine va_iast hx hb hK hP hD hS 15 0 rfl rfl hi31 d_Model_finish_189 (fun H locs hP hD hS => ?_)
      obtain ⟨μ32, eμ32⟩ : ∃ z, z = s2 μ29 17 (Int32.toNatClampNeg ((10 * x3) + x4)) (μ29 34 (Int32.toNatClampNeg x4)) := ⟨_, rfl⟩
      replace hP : va_P D CL (wModel k g μ32) H := by rw [eμ32]; exact hP
      replace hD : va_D A (wModel k g μ32) := by rw [eμ32]; exact hD
      replace h := h μ32 eμ32
      refine lv_aload_n hx hb d_Model_finish_190 rfl (lv_at hl 0 rfl) ?_
      refine va_get (D := D) (ci := 8) (v := .ref (g 16)) (C := R_Model) (T := F_Model) (N := 40) hx hb hts in_Model hown hK hP 0 rfl rfl 18 (by decide) (hts _ kw_880) (fun _ h9 => h9) rfl d_Model_finish_191 ?_
      refine lv_bipush (v := 10) hx hb d_Model_finish_194 (by decide) ?_
      refine lv_iload_n hx hb d_Model_finish_196 rfl (lv_at hl 3 rfl) ?_
      refine lv_imul hx hb d_Model_finish_197 ?_
      refine lv_iload hx hb d_Model_finish_198 (lv_at hl 4 rfl) ?_
      refine lv_iadd hx hb d_Model_finish_200 ?_
      refine lv_aload_n hx hb d_Model_finish_201 rfl (lv_at hl 0 rfl) ?_
      refine va_get (D := D) (ci := 8) (v := .ref (g 29)) (C := R_Model) (T := F_Model) (N := 40) hx hb hts in_Model hown hK hP 0 rfl rfl 36 (by decide) (hts _ kw_898) (fun _ h9 => h9) rfl d_Model_finish_202 ?_
      refine lv_iload hx hb d_Model_finish_205 (lv_at hl 4 rfl) ?_
      obtain ⟨hi33, h⟩ := h
      refine va_iald hx hb hK hP 29 0 rfl rfl hi33 d_Model_finish_207 ?_
      obtain ⟨hi34, h⟩ := h
      refine va_iast hx hb hK hP hD hS 16 0 rfl rfl hi34 d_Model_finish_208 (fun H locs hP hD hS => ?_)
      obtain ⟨μ35, eμ35⟩ : ∃ z, z = s2 μ32 18 (Int32.toNatClampNeg ((10 * x3) + x4)) (μ32 36 (Int32.toNatClampNeg x4)) := ⟨_, rfl⟩
      replace hP : va_P D CL (wModel k g μ35) H := by rw [eμ35]; exact hP
      replace hD : va_D A (wModel k g μ35) := by rw [eμ35]; exact hD
      replace h := h μ35 eμ35
      refine lv_iinc (v := x4 + 1) (lv' := [(4, .int (x4 + 1)), (0, .ref (g 0)), (1, .int x1), (2, .int x2), (3, .int x3)]) hx hb d_Model_finish_209 hl (k := 4) rfl rfl (by decide) rfl (fun ls hl => ?_)
      refine lv_goto (tgt := 124) hx hb d_Model_finish_212 (by decide) ?_
      exact ih x1 x2 x3 (x4 + 1) μ35 _ _ _ hP hD hS (lv_sub hl [1, 2, 3, 4, 0] rfl) h
set_option maxHeartbeats 4000000 in
set_option maxRecDepth 100000 in
theorem t_Model_finish_58 {p : Program} {l : Launch} {e : Env} {s : State} {m : MethodId} {args : Array Value} {below : List Frame} {meth : Method} {c : Code} {A : Nat → Prop} {D : va_G} {k : Nat → ClassId} {g : Nat → Nat} (C : Cx p s m args meth c D k "PromotionTillModel" b_Model_finish 5 (some .int) A) (N : Nat) (post : Int32 → ((St)) → Prop) :
    ∀ (x1 : Int32) (x2 : Int32) (y0 : Int32) (μ : (St)) (H : Heap) (locs : List Loc) (ls : Array Slot), va_P D CL (wModel k g μ) H → va_D A (wModel k g μ) → va_S A s.heap H locs → lv_has ls 5 [(0, .ref (g 0)), (1, .int x1), (2, .int x2)] → wp_Model_finish_58 N post x1 x2 y0 μ → W p l e rm_Model_finish s m args below meth c H locs 0 0 (MQ below (va_Qi post (fun (u : (St)) t => va_P D CL (wModel k g u) t.heap ∧ va_D A (wModel k g u)) A) args s rm_Model_finish.cells rm_Model_finish.slots A) (F0 m 58 ls [.int y0, .ref (g 0)]) := by
  obtain ⟨hx, hb, hr, hlk, hml, hown, hts, hK, hA⟩ := id C
  intro x1 x2 y0 μ H locs ls hP hD hS hl h
  unfold wp_Model_finish_58 at h
  refine va_put (D := D) (ci := 8) (v := .int y0) (ty := .int) (C := R_Model) (T := F_Model) (N := 40) hx hb hts in_Model t_Model tt_Model n_Model hown hK hP hD hS 0 rfl rfl 39 (by decide) (hts _ kw_901) (fun _ h9 => h9) rfl (by decide +kernel) rfl rfl (Nat.le_of_ble_eq_true rfl) d_Model_finish_58 (fun H locs hP hD hS => ?_)
  obtain ⟨μ10, eμ10⟩ : ∃ z, z = s2 μ 39 0 y0 := ⟨_, rfl⟩
  replace hP : va_P D CL (wModel k g μ10) H := by rw [eμ10]; exact hP
  replace hD : va_D A (wModel k g μ10) := by rw [eμ10]; exact hD
  replace h := h μ10 eμ10
  refine lv_aload_n hx hb d_Model_finish_61 rfl (lv_at hl 0 rfl) ?_
  refine va_get (D := D) (ci := 8) (v := .int (μ10 39 0)) (C := R_Model) (T := F_Model) (N := 40) hx hb hts in_Model hown hK hP 0 rfl rfl 39 (by decide) (hts _ kw_901) (fun _ h9 => h9) rfl d_Model_finish_62 ?_
  refine lv_if_eq (tgt := 70) hx hb d_Model_finish_65 (by decide) (fun c11 => ?_) (fun c11 => ?_)
  · replace h := h.1 c11
    refine lv_aload_n hx hb d_Model_finish_70 rfl (lv_at hl 0 rfl) ?_
    refine same_v C hP hD hS (runV (As := []) (rest := []) C hP hD (m_Model_plan N g μ10   _ h H.size) kw_1089 kw_1091 kp_42 kw_12 kw_1092 hd_Model_plan ⟨Nat.le_of_ble_eq_true rfl, Nat.le_of_ble_eq_true rfl⟩ ⟨Nat.le_of_ble_eq_true rfl, Nat.le_of_ble_eq_true rfl⟩ 0 rfl rfl rfl rfl hl.1 (Nat.le_of_ble_eq_true rfl) d_Model_finish_71) (fun u12 H locs h hP hD hS => ?_)
    replace hP : va_P D CL (wModel k g u12) H := hP
    replace hD : va_D A (wModel k g u12) := hD
    try dsimp only at h
    refine lv_aload_n hx hb d_Model_finish_74 rfl (lv_at hl 0 rfl) ?_
    refine va_get (D := D) (ci := 8) (v := .int (u12 10 0)) (C := R_Model) (T := F_Model) (N := 40) hx hb hts in_Model hown hK hP 0 rfl rfl 10 (by decide) (hts _ kw_872) (fun _ h9 => h9) rfl d_Model_finish_75 ?_
    refine lv_istore_n (lv' := [(3, .int (u12 10 0)), (0, .ref (g 0)), (1, .int x1), (2, .int x2)]) hx hb d_Model_finish_78 rfl hl (by decide) rfl (fun ls hl => ?_)
    refine lv_aload_n hx hb d_Model_finish_79 rfl (lv_at hl 1 rfl) ?_
    refine lv_dup hx hb d_Model_finish_80 rfl ?_
    refine va_get (D := D) (ci := 8) (v := .int (u12 10 0)) (C := R_Model) (T := F_Model) (N := 40) hx hb hts in_Model hown hK hP 0 rfl rfl 10 (by decide) (hts _ kw_872) (fun _ h9 => h9) rfl d_Model_finish_81 ?_
    refine lv_iconst (v := 1) hx hb d_Model_finish_84 (by decide) ?_
    refine lv_iadd hx hb d_Model_finish_85 ?_
    refine va_put (D := D) (ci := 8) (v := .int ((u12 10 0) + 1)) (ty := .int) (C := R_Model) (T := F_Model) (N := 40) hx hb hts in_Model t_Model tt_Model n_Model hown hK hP hD hS 0 rfl rfl 10 (by decide) (hts _ kw_872) (fun _ h9 => h9) rfl (by decide +kernel) rfl rfl (Nat.le_of_ble_eq_true rfl) d_Model_finish_86 (fun H locs hP hD hS => ?_)
    obtain ⟨μ14, eμ14⟩ : ∃ z, z = s2 u12 10 0 ((u12 10 0) + 1) := ⟨_, rfl⟩
    replace hP : va_P D CL (wModel k g μ14) H := by rw [eμ14]; exact hP
    replace hD : va_D A (wModel k g μ14) := by rw [eμ14]; exact hD
    replace h := h μ14 eμ14
    refine lv_aload_n hx hb d_Model_finish_89 rfl (lv_at hl 1 rfl) ?_
    refine lv_iload_n hx hb d_Model_finish_90 rfl (lv_at hl 0 rfl) ?_
    refine same_v C hP hD hS (runV (As := [.int (u12 10 0)]) (rest := []) C hP hD (m_Model_copyOffers N g μ14 (u12 10 0)  _ h H.size) kw_1131 kw_1133 kp_48 kw_12 kw_1134 hd_Model_copyOffers ⟨Nat.le_of_ble_eq_true rfl, Nat.le_of_ble_eq_true rfl⟩ ⟨Nat.le_of_ble_eq_true rfl, Nat.le_of_ble_eq_true rfl⟩ 0 rfl rfl rfl rfl hl.1 (Nat.le_of_ble_eq_true rfl) d_Model_finish_91) (fun u15 H locs h hP hD hS => ?_)
    replace hP : va_P D CL (wModel k g u15) H := hP
    replace hD : va_D A (wModel k g u15) := hD
    try dsimp only at h
    refine lv_aload_n hx hb d_Model_finish_94 rfl (lv_at hl 1 rfl) ?_
    refine va_get (D := D) (ci := 8) (v := .ref (g 10)) (C := R_Model) (T := F_Model) (N := 40) hx hb hts in_Model hown hK hP 0 rfl rfl 12 (by decide) (hts _ kw_874) (fun _ h9 => h9) rfl d_Model_finish_95 ?_
    refine lv_iload_n hx hb d_Model_finish_98 rfl (lv_at hl 0 rfl) ?_
    refine lv_aload_n hx hb d_Model_finish_99 rfl (lv_at hl 1 rfl) ?_
    refine va_get (D := D) (ci := 8) (v := .int (u15 9 0)) (C := R_Model) (T := F_Model) (N := 40) hx hb hts in_Model hown hK hP 0 rfl rfl 9 (by decide) (hts _ kw_871) (fun _ h9 => h9) rfl d_Model_finish_100 ?_
    obtain ⟨hi17, h⟩ := h
    refine va_iast hx hb hK hP hD hS 10 0 rfl rfl hi17 d_Model_finish_103 (fun H locs hP hD hS => ?_)
    obtain ⟨μ18, eμ18⟩ : ∃ z, z = s2 u15 12 (Int32.toNatClampNeg (u12 10 0)) (u15 9 0) := ⟨_, rfl⟩
    replace hP : va_P D CL (wModel k g μ18) H := by rw [eμ18]; exact hP
    replace hD : va_D A (wModel k g μ18) := by rw [eμ18]; exact hD
    replace h := h μ18 eμ18
    refine lv_aload_n hx hb d_Model_finish_104 rfl (lv_at hl 1 rfl) ?_
    refine va_get (D := D) (ci := 8) (v := .ref (g 11)) (C := R_Model) (T := F_Model) (N := 40) hx hb hts in_Model hown hK hP 0 rfl rfl 13 (by decide) (hts _ kw_875) (fun _ h9 => h9) rfl d_Model_finish_105 ?_
    refine lv_iload_n hx hb d_Model_finish_108 rfl (lv_at hl 0 rfl) ?_
    refine lv_iload_n hx hb d_Model_finish_109 rfl (lv_at hl 3 rfl) ?_
    obtain ⟨hi19, h⟩ := h
    refine va_iast hx hb hK hP hD hS 11 0 rfl rfl hi19 d_Model_finish_110 (fun H locs hP hD hS => ?_)
    obtain ⟨μ20, eμ20⟩ : ∃ z, z = s2 μ18 13 (Int32.toNatClampNeg (u12 10 0)) x2 := ⟨_, rfl⟩
    replace hP : va_P D CL (wModel k g μ20) H := by rw [eμ20]; exact hP
    replace hD : va_D A (wModel k g μ20) := by rw [eμ20]; exact hD
    replace h := h μ20 eμ20
    refine lv_aload_n hx hb d_Model_finish_111 rfl (lv_at hl 1 rfl) ?_
    refine lv_dup hx hb d_Model_finish_112 rfl ?_
    refine va_get (D := D) (ci := 8) (v := .int (μ20 11 0)) (C := R_Model) (T := F_Model) (N := 40) hx hb hts in_Model hown hK hP 0 rfl rfl 11 (by decide) (hts _ kw_873) (fun _ h9 => h9) rfl d_Model_finish_113 ?_
    refine lv_iload_n hx hb d_Model_finish_116 rfl (lv_at hl 3 rfl) ?_
    refine lv_iadd hx hb d_Model_finish_117 ?_
    refine va_put (D := D) (ci := 8) (v := .int ((μ20 11 0) + x2)) (ty := .int) (C := R_Model) (T := F_Model) (N := 40) hx hb hts in_Model t_Model tt_Model n_Model hown hK hP hD hS 0 rfl rfl 11 (by decide) (hts _ kw_873) (fun _ h9 => h9) rfl (by decide +kernel) rfl rfl (Nat.le_of_ble_eq_true rfl) d_Model_finish_118 (fun H locs hP hD hS => ?_)
    obtain ⟨μ21, eμ21⟩ : ∃ z, z = s2 μ20 11 0 ((μ20 11 0) + x2) := ⟨_, rfl⟩
    replace hP : va_P D CL (wModel k g μ21) H := by rw [eμ21]; exact hP
    replace hD : va_D A (wModel k g μ21) := by rw [eμ21]; exact hD
    replace h := h μ21 eμ21
    refine lv_iconst (v := 0) hx hb d_Model_finish_121 (by decide) ?_
    refine lv_istore (lv' := [(4, .int 0), (3, .int (u12 10 0)), (0, .ref (g 0)), (1, .int x1), (2, .int x2)]) hx hb d_Model_finish_122 hl (by decide) rfl (fun ls hl => ?_)
    exact t_Model_finish_124 C N post   N x1 x2 (u12 10 0) 0 μ21 _ _ _ hP hD hS (lv_sub hl [2, 3, 4, 1, 0] rfl) h
  · replace h := h.2 c11
    refine lv_iconst (v := 0) hx hb d_Model_finish_68 (by decide) ?_
    exact ret_i (u := μ10) (wf := (fun u : (St) => wModel k g u)) C hP hD hS (Nat.zero_le _) (Nat.zero_le _) h d_Model_finish_69
set_option maxHeartbeats 4000000 in
set_option maxRecDepth 100000 in
theorem t_Model_finish_13 {p : Program} {l : Launch} {e : Env} {s : State} {m : MethodId} {args : Array Value} {below : List Frame} {meth : Method} {c : Code} {A : Nat → Prop} {D : va_G} {k : Nat → ClassId} {g : Nat → Nat} (C : Cx p s m args meth c D k "PromotionTillModel" b_Model_finish 5 (some .int) A) (N : Nat) (post : Int32 → ((St)) → Prop) :
    ∀ (x1 : Int32) (y0 : Int32) (μ : (St)) (H : Heap) (locs : List Loc) (ls : Array Slot), va_P D CL (wModel k g μ) H → va_D A (wModel k g μ) → va_S A s.heap H locs → lv_has ls 5 [(0, .ref (g 0)), (1, .int x1)] → wp_Model_finish_13 N post x1 y0 μ → W p l e rm_Model_finish s m args below meth c H locs 0 0 (MQ below (va_Qi post (fun (u : (St)) t => va_P D CL (wModel k g u) t.heap ∧ va_D A (wModel k g u)) A) args s rm_Model_finish.cells rm_Model_finish.slots A) (F0 m 13 ls [.int y0, .ref (g 0)]) := by
  obtain ⟨hx, hb, hr, hlk, hml, hown, hts, hK, hA⟩ := id C
  intro x1 y0 μ H locs ls hP hD hS hl h
  unfold wp_Model_finish_13 at h
  refine va_put (D := D) (ci := 8) (v := .int y0) (ty := .int) (C := R_Model) (T := F_Model) (N := 40) hx hb hts in_Model t_Model tt_Model n_Model hown hK hP hD hS 0 rfl rfl 39 (by decide) (hts _ kw_901) (fun _ h9 => h9) rfl (by decide +kernel) rfl rfl (Nat.le_of_ble_eq_true rfl) d_Model_finish_13 (fun H locs hP hD hS => ?_)
  obtain ⟨μ2, eμ2⟩ : ∃ z, z = s2 μ 39 0 y0 := ⟨_, rfl⟩
  replace hP : va_P D CL (wModel k g μ2) H := by rw [eμ2]; exact hP
  replace hD : va_D A (wModel k g μ2) := by rw [eμ2]; exact hD
  replace h := h μ2 eμ2
  refine lv_aload_n hx hb d_Model_finish_16 rfl (lv_at hl 0 rfl) ?_
  refine va_get (D := D) (ci := 8) (v := .int (μ2 39 0)) (C := R_Model) (T := F_Model) (N := 40) hx hb hts in_Model hown hK hP 0 rfl rfl 39 (by decide) (hts _ kw_901) (fun _ h9 => h9) rfl d_Model_finish_17 ?_
  refine lv_if_eq (tgt := 25) hx hb d_Model_finish_20 (by decide) (fun c3 => ?_) (fun c3 => ?_)
  · replace h := h.1 c3
    refine lv_aload_n hx hb d_Model_finish_25 rfl (lv_at hl 0 rfl) ?_
    refine same_v C hP hD hS (runV (As := []) (rest := []) C hP hD (m_Model_takeBasket N g μ2   _ h H.size) kw_1012 kw_1014 kp_25 kw_12 kw_1015 hd_Model_takeBasket ⟨Nat.le_of_ble_eq_true rfl, Nat.le_of_ble_eq_true rfl⟩ ⟨Nat.le_of_ble_eq_true rfl, Nat.le_of_ble_eq_true rfl⟩ 0 rfl rfl rfl rfl hl.1 (Nat.le_of_ble_eq_true rfl) d_Model_finish_26) (fun u4 H locs h hP hD hS => ?_)
    replace hP : va_P D CL (wModel k g u4) H := hP
    replace hD : va_D A (wModel k g u4) := hD
    try dsimp only at h
    refine lv_aload_n hx hb d_Model_finish_29 rfl (lv_at hl 0 rfl) ?_
    refine same_i C hP hD hS (runV (As := []) (rest := []) C hP hD (m_Model_leastTotal N g u4   _ h H.size) kw_1045 kw_1047 kp_31 kw_12 kw_1048 hd_Model_leastTotal ⟨Nat.le_of_ble_eq_true rfl, Nat.le_of_ble_eq_true rfl⟩ ⟨Nat.le_of_ble_eq_true rfl, Nat.le_of_ble_eq_true rfl⟩ 0 rfl rfl rfl rfl hl.1 (Nat.le_of_ble_eq_true rfl) d_Model_finish_30) (fun r7 u6 H locs h hP hD hS => ?_)
    replace hP : va_P D CL (wModel k g u6) H := hP
    replace hD : va_D A (wModel k g u6) := hD
    try dsimp only at h
    refine lv_istore_n (lv' := [(2, .int r7), (0, .ref (g 0)), (1, .int x1)]) hx hb d_Model_finish_33 rfl hl (by decide) rfl (fun ls hl => ?_)
    refine lv_aload_n hx hb d_Model_finish_34 rfl (lv_at hl 1 rfl) ?_
    refine lv_iload_n hx hb d_Model_finish_35 rfl (lv_at hl 2 rfl) ?_
    refine lv_iload_n hx hb d_Model_finish_36 rfl (lv_at hl 0 rfl) ?_
    refine lv_icmp_ge (tgt := 44) hx hb d_Model_finish_37 (by decide) (fun c8 => ?_) (fun c8 => ?_)
    · replace h := h.1 c8
      refine lv_aload_n hx hb d_Model_finish_44 rfl (lv_at hl 1 rfl) ?_
      refine va_get (D := D) (ci := 8) (v := .int (u6 10 0)) (C := R_Model) (T := F_Model) (N := 40) hx hb hts in_Model hown hK hP 0 rfl rfl 10 (by decide) (hts _ kw_872) (fun _ h9 => h9) rfl d_Model_finish_45 ?_
      refine lv_bipush (v := 12) hx hb d_Model_finish_48 (by decide) ?_
      refine lv_icmp_ne (tgt := 57) hx hb d_Model_finish_50 (by decide) (fun c9 => ?_) (fun c9 => ?_)
      · replace h := h.1 c9
        refine lv_iconst (v := 0) hx hb d_Model_finish_57 (by decide) ?_
        exact t_Model_finish_58 C N post x1 r7 0 u6 _ _ _ hP hD hS (lv_sub hl [1, 2, 0] rfl) h
      · replace h := h.2 c9
        refine lv_iconst (v := 3) hx hb d_Model_finish_53 (by decide) ?_
        refine lv_goto (tgt := 58) hx hb d_Model_finish_54 (by decide) ?_
        exact t_Model_finish_58 C N post x1 r7 3 u6 _ _ _ hP hD hS (lv_sub hl [1, 2, 0] rfl) h
    · replace h := h.2 c8
      refine lv_iconst (v := 2) hx hb d_Model_finish_40 (by decide) ?_
      refine lv_goto (tgt := 58) hx hb d_Model_finish_41 (by decide) ?_
      exact t_Model_finish_58 C N post x1 r7 2 u6 _ _ _ hP hD hS (lv_sub hl [1, 2, 0] rfl) h
  · replace h := h.2 c3
    refine lv_iconst (v := 0) hx hb d_Model_finish_23 (by decide) ?_
    exact ret_i (u := μ2) (wf := (fun u : (St) => wModel k g u)) C hP hD hS (Nat.zero_le _) (Nat.zero_le _) h d_Model_finish_24
set_option maxHeartbeats 4000000 in
set_option maxRecDepth 100000 in
theorem m_Model_finish {l : Launch} {D : va_G} {k : Nat → ClassId} (N : Nat) (g : Nat → Nat) (μ : St) (x1 : Int32) (post : Int32 → ((St)) → Prop) (h : wp_Model_finish N  μ x1 post) : Ci l D k y_Model_finish b_Model_finish 5 .int rm_Model_finish [.ref (g 0), .int x1] (wModel k g μ) (fun u : (St) => wModel k g u) post := by
  refine Ci.of (by decide) (Nat.le_of_ble_eq_true rfl) ?_
  intro p e s m below meth c A H locs ls C hP hD hS hl
  obtain ⟨hx, hb, hr, hlk, hml, hown, hts, hK, hA⟩ := id C
  replace hl : lv_has ls 5 [(0, .ref (g 0)), (1, .int x1)] := hl
  unfold wp_Model_finish at h
  refine lv_aload_n hx hb d_Model_finish_0 rfl (lv_at hl 0 rfl) ?_
  refine lv_aload_n hx hb d_Model_finish_1 rfl (lv_at hl 0 rfl) ?_
  refine va_get (D := D) (ci := 8) (v := .int (μ 9 0)) (C := R_Model) (T := F_Model) (N := 40) hx hb hts in_Model hown hK hP 0 rfl rfl 9 (by decide) (hts _ kw_871) (fun _ h9 => h9) rfl d_Model_finish_2 ?_
  refine lv_if_ne (tgt := 12) hx hb d_Model_finish_5 (by decide) (fun c1 => ?_) (fun c1 => ?_)
  · replace h := h.1 c1
    refine lv_iconst (v := 0) hx hb d_Model_finish_12 (by decide) ?_
    exact t_Model_finish_13 C N post x1 0 μ _ _ _ hP hD hS (lv_sub hl [0, 1] rfl) h
  · replace h := h.2 c1
    refine lv_iconst (v := 1) hx hb d_Model_finish_8 (by decide) ?_
    refine lv_goto (tgt := 13) hx hb d_Model_finish_9 (by decide) ?_
    exact t_Model_finish_13 C N post x1 1 μ _ _ _ hP hD hS (lv_sub hl [0, 1] rfl) h
set_option maxHeartbeats 4000000 in
set_option maxRecDepth 100000 in
theorem t_Model_isLine_34 {p : Program} {l : Launch} {e : Env} {s : State} {m : MethodId} {args : Array Value} {below : List Frame} {meth : Method} {c : Code} {A : Nat → Prop} {D : va_G} {k : Nat → ClassId} {g : Nat → Nat} (C : Cx p s m args meth c D k "PromotionTillModel" b_Model_isLine 3 (some .boolean) A) (N : Nat) (μ : St) (post : Int32 → (Unit) → Prop) :
    ∀  (H : Heap) (locs : List Loc) (ls : Array Slot), va_P D CL (wModel k g μ) H → va_D A (wModel k g μ) → va_S A s.heap H locs → lv_has ls 3 [] → wp_Model_isLine_34 N μ post  → W p l e rm_Model_isLine s m args below meth c H locs 0 0 (MQ below (va_Qi post (fun (u : Unit) t => va_P D CL (wModel k g μ) t.heap ∧ va_D A (wModel k g μ)) A) args s rm_Model_isLine.cells rm_Model_isLine.slots A) (F0 m 34 ls []) := by
  obtain ⟨hx, hb, hr, hlk, hml, hown, hts, hK, hA⟩ := id C
  intro  H locs ls hP hD hS hl h
  unfold wp_Model_isLine_34 at h
  refine lv_iconst (v := 0) hx hb d_Model_isLine_34 (by decide) ?_
  exact ret_z (u := ()) (wf := (fun u : Unit => wModel k g μ)) C rfl hP hD hS (Nat.zero_le _) (Nat.zero_le _) h d_Model_isLine_35
set_option maxHeartbeats 4000000 in
set_option maxRecDepth 100000 in
theorem m_Model_isLine {l : Launch} {D : va_G} {k : Nat → ClassId} (N : Nat) (g : Nat → Nat) (μ : St) (x1 : Int32) (x2 : Int32) (post : Int32 → (Unit) → Prop) (h : wp_Model_isLine N  μ x1 x2 post) : Ci l D k y_Model_isLine b_Model_isLine 3 .boolean rm_Model_isLine [.ref (g 0), .int x1, .int x2] (wModel k g μ) (fun u : Unit => wModel k g μ) post := by
  refine Ci.of (by decide) (Nat.le_of_ble_eq_true rfl) ?_
  intro p e s m below meth c A H locs ls C hP hD hS hl
  obtain ⟨hx, hb, hr, hlk, hml, hown, hts, hK, hA⟩ := id C
  replace hl : lv_has ls 3 [(0, .ref (g 0)), (1, .int x1), (2, .int x2)] := hl
  unfold wp_Model_isLine at h
  refine lv_iload_n hx hb d_Model_isLine_0 rfl (lv_at hl 1 rfl) ?_
  refine lv_iconst (v := 0) hx hb d_Model_isLine_1 (by decide) ?_
  refine lv_aload_n hx hb d_Model_isLine_2 rfl (lv_at hl 0 rfl) ?_
  refine va_get (D := D) (ci := 8) (v := .int (μ 10 0)) (C := R_Model) (T := F_Model) (N := 40) hx hb hts in_Model hown hK hP 0 rfl rfl 10 (by decide) (hts _ kw_872) (fun _ h9 => h9) rfl d_Model_isLine_3 ?_
  refine lv_iconst (v := 1) hx hb d_Model_isLine_6 (by decide) ?_
  refine lv_isub hx hb d_Model_isLine_7 ?_
  refine none_i C hP hD hS (runS (As := [.int x1, .int 0, .int ((μ 10 0) - 1)]) (rest := []) C nilP nilD (m_Model_within N   x1 0 ((μ 10 0) - 1)  _ h H.size) kw_991 kw_992 kw_12 kw_993 (hd_Model_within).2 ⟨Nat.le_of_ble_eq_true rfl, Nat.le_of_ble_eq_true rfl⟩ ⟨Nat.le_of_ble_eq_true rfl, Nat.le_of_ble_eq_true rfl⟩ rfl hl.1 (Nat.le_of_ble_eq_true rfl) d_Model_isLine_8) (fun r2 u1 H locs h hP hD hS => ?_)
  try dsimp only at h
  refine lv_if_eq (tgt := 34) hx hb d_Model_isLine_11 (by decide) (fun c3 => ?_) (fun c3 => ?_)
  · replace h := h.1 c3
    exact t_Model_isLine_34 C N μ post  _ _ _ hP hD hS (lv_sub hl [] rfl) h
  · replace h := h.2 c3
    refine lv_iload_n hx hb d_Model_isLine_14 rfl (lv_at hl 2 rfl) ?_
    refine lv_iconst (v := 0) hx hb d_Model_isLine_15 (by decide) ?_
    refine lv_aload_n hx hb d_Model_isLine_16 rfl (lv_at hl 0 rfl) ?_
    refine va_get (D := D) (ci := 8) (v := .ref (g 10)) (C := R_Model) (T := F_Model) (N := 40) hx hb hts in_Model hown hK hP 0 rfl rfl 12 (by decide) (hts _ kw_874) (fun _ h9 => h9) rfl d_Model_isLine_17 ?_
    refine lv_iload_n hx hb d_Model_isLine_20 rfl (lv_at hl 1 rfl) ?_
    obtain ⟨hi4, h⟩ := h
    refine va_iald hx hb hK hP 10 0 rfl rfl hi4 d_Model_isLine_21 ?_
    refine lv_iconst (v := 1) hx hb d_Model_isLine_22 (by decide) ?_
    refine lv_isub hx hb d_Model_isLine_23 ?_
    refine none_i C hP hD hS (runS (As := [.int x2, .int 0, .int ((μ 12 (Int32.toNatClampNeg x1)) - 1)]) (rest := []) C nilP nilD (m_Model_within N   x2 0 ((μ 12 (Int32.toNatClampNeg x1)) - 1)  _ h H.size) kw_991 kw_992 kw_12 kw_993 (hd_Model_within).2 ⟨Nat.le_of_ble_eq_true rfl, Nat.le_of_ble_eq_true rfl⟩ ⟨Nat.le_of_ble_eq_true rfl, Nat.le_of_ble_eq_true rfl⟩ rfl hl.1 (Nat.le_of_ble_eq_true rfl) d_Model_isLine_24) (fun r6 u5 H locs h hP hD hS => ?_)
    try dsimp only at h
    refine lv_if_eq (tgt := 34) hx hb d_Model_isLine_27 (by decide) (fun c7 => ?_) (fun c7 => ?_)
    · replace h := h.1 c7
      exact t_Model_isLine_34 C N μ post  _ _ _ hP hD hS (lv_sub hl [] rfl) h
    · replace h := h.2 c7
      refine lv_iconst (v := 1) hx hb d_Model_isLine_30 (by decide) ?_
      refine lv_goto (tgt := 35) hx hb d_Model_isLine_31 (by decide) ?_
      exact ret_z (u := ()) (wf := (fun u : Unit => wModel k g μ)) C rfl hP hD hS (Nat.zero_le _) (Nat.zero_le _) h d_Model_isLine_35
set_option maxHeartbeats 4000000 in
set_option maxRecDepth 100000 in
theorem t_Model_giveBack_183 {p : Program} {l : Launch} {e : Env} {s : State} {m : MethodId} {args : Array Value} {below : List Frame} {meth : Method} {c : Code} {A : Nat → Prop} {D : va_G} {k : Nat → ClassId} {g : Nat → Nat} (C : Cx p s m args meth c D k "PromotionTillModel" b_Model_giveBack 5 (some .int) A) (N : Nat) (post : Int32 → ((St)) → Prop) :
    ∀ (x1 : Int32) (y0 : Int32) (μ : (St)) (H : Heap) (locs : List Loc) (ls : Array Slot), va_P D CL (wModel k g μ) H → va_D A (wModel k g μ) → va_S A s.heap H locs → lv_has ls 5 [(0, .ref (g 0)), (1, .int x1)] → wp_Model_giveBack_183 N post x1 y0 μ → W p l e rm_Model_giveBack s m args below meth c H locs 0 0 (MQ below (va_Qi post (fun (u : (St)) t => va_P D CL (wModel k g u) t.heap ∧ va_D A (wModel k g u)) A) args s rm_Model_giveBack.cells rm_Model_giveBack.slots A) (F0 m 183 ls [.int y0]) := by
  obtain ⟨hx, hb, hr, hlk, hml, hown, hts, hK, hA⟩ := id C
  intro x1 y0 μ H locs ls hP hD hS hl h
  unfold wp_Model_giveBack_183 at h
  refine lv_istore (lv' := [(4, .int y0), (0, .ref (g 0)), (1, .int x1)]) hx hb d_Model_giveBack_183 hl (by decide) rfl (fun ls hl => ?_)
  refine lv_aload_n hx hb d_Model_giveBack_185 rfl (lv_at hl 1 rfl) ?_
  refine va_get (D := D) (ci := 8) (v := .ref (g 12)) (C := R_Model) (T := F_Model) (N := 40) hx hb hts in_Model hown hK hP 0 rfl rfl 14 (by decide) (hts _ kw_876) (fun _ h9 => h9) rfl d_Model_giveBack_186 ?_
  refine lv_iload_n hx hb d_Model_giveBack_189 rfl (lv_at hl 2 rfl) ?_
  refine lv_dup2_11 hx hb d_Model_giveBack_190 rfl rfl ?_
  obtain ⟨hi29, h⟩ := h
  refine va_iald hx hb hK hP 12 0 rfl rfl hi29 d_Model_giveBack_191 ?_
  refine lv_iload hx hb d_Model_giveBack_192 (lv_at hl 0 rfl) ?_
  refine lv_iadd hx hb d_Model_giveBack_194 ?_
  obtain ⟨hi30, h⟩ := h
  refine va_iast hx hb hK hP hD hS 12 0 rfl rfl hi30 d_Model_giveBack_195 (fun H locs hP hD hS => ?_)
  obtain ⟨μ31, eμ31⟩ : ∃ z, z = s2 μ 14 (Int32.toNatClampNeg x1) ((μ 14 (Int32.toNatClampNeg x1)) + y0) := ⟨_, rfl⟩
  replace hP : va_P D CL (wModel k g μ31) H := by rw [eμ31]; exact hP
  replace hD : va_D A (wModel k g μ31) := by rw [eμ31]; exact hD
  replace h := h μ31 eμ31
  refine lv_aload_n hx hb d_Model_giveBack_196 rfl (lv_at hl 1 rfl) ?_
  refine lv_dup hx hb d_Model_giveBack_197 rfl ?_
  refine va_get (D := D) (ci := 8) (v := .int (μ31 11 0)) (C := R_Model) (T := F_Model) (N := 40) hx hb hts in_Model hown hK hP 0 rfl rfl 11 (by decide) (hts _ kw_873) (fun _ h9 => h9) rfl d_Model_giveBack_198 ?_
  refine lv_iload hx hb d_Model_giveBack_201 (lv_at hl 0 rfl) ?_
  refine lv_isub hx hb d_Model_giveBack_203 ?_
  refine va_put (D := D) (ci := 8) (v := .int ((μ31 11 0) - y0)) (ty := .int) (C := R_Model) (T := F_Model) (N := 40) hx hb hts in_Model t_Model tt_Model n_Model hown hK hP hD hS 0 rfl rfl 11 (by decide) (hts _ kw_873) (fun _ h9 => h9) rfl (by decide +kernel) rfl rfl (Nat.le_of_ble_eq_true rfl) d_Model_giveBack_204 (fun H locs hP hD hS => ?_)
  obtain ⟨μ32, eμ32⟩ : ∃ z, z = s2 μ31 11 0 ((μ31 11 0) - y0) := ⟨_, rfl⟩
  replace hP : va_P D CL (wModel k g μ32) H := by rw [eμ32]; exact hP
  replace hD : va_D A (wModel k g μ32) := by rw [eμ32]; exact hD
  replace h := h μ32 eμ32
  refine lv_iload hx hb d_Model_giveBack_207 (lv_at hl 0 rfl) ?_
  exact ret_i (u := μ32) (wf := (fun u : (St) => wModel k g u)) C hP hD hS (Nat.zero_le _) (Nat.zero_le _) h d_Model_giveBack_209
set_option maxHeartbeats 4000000 in
set_option maxRecDepth 100000 in
theorem t_Model_giveBack_143 {p : Program} {l : Launch} {e : Env} {s : State} {m : MethodId} {args : Array Value} {below : List Frame} {meth : Method} {c : Code} {A : Nat → Prop} {D : va_G} {k : Nat → ClassId} {g : Nat → Nat} (C : Cx p s m args meth c D k "PromotionTillModel" b_Model_giveBack 5 (some .int) A) (N : Nat) (post : Int32 → ((St)) → Prop) (K_69 : Int32 → Int32 → (St) → Prop) (hK_69 : ∀ (x1 : Int32) (x3 : Int32) (μ : (St)) (H : Heap) (locs : List Loc) (ls : Array Slot), va_P D CL (wModel k g μ) H → va_D A (wModel k g μ) → va_S A s.heap H locs → lv_has ls 5 [(0, .ref (g 0)), (1, .int x1), (3, .int x3)] → K_69 x1 x3 μ → W p l e rm_Model_giveBack s m args below meth c H locs 0 0 (MQ below (va_Qi post (fun (u : (St)) t => va_P D CL (wModel k g u) t.heap ∧ va_D A (wModel k g u)) A) args s rm_Model_giveBack.cells rm_Model_giveBack.slots A) (F0 m 69 ls [])) :
    ∀ (x1 : Int32) (x3 : Int32) (μ : (St)) (H : Heap) (locs : List Loc) (ls : Array Slot), va_P D CL (wModel k g μ) H → va_D A (wModel k g μ) → va_S A s.heap H locs → lv_has ls 5 [(0, .ref (g 0)), (1, .int x1), (3, .int x3)] → wp_Model_giveBack_143 N post K_69 x1 x3 μ → W p l e rm_Model_giveBack s m args below meth c H locs 0 0 (MQ below (va_Qi post (fun (u : (St)) t => va_P D CL (wModel k g u) t.heap ∧ va_D A (wModel k g u)) A) args s rm_Model_giveBack.cells rm_Model_giveBack.slots A) (F0 m 143 ls []) := by
  obtain ⟨hx, hb, hr, hlk, hml, hown, hts, hK, hA⟩ := id C
  intro x1 x3 μ H locs ls hP hD hS hl h
  unfold wp_Model_giveBack_143 at h
  refine lv_iinc (v := x3 + 1) (lv' := [(3, .int (x3 + 1)), (0, .ref (g 0)), (1, .int x1)]) hx hb d_Model_giveBack_143 hl (k := 2) rfl rfl (by decide) rfl (fun ls hl => ?_)
  refine lv_goto (tgt := 69) hx hb d_Model_giveBack_146 (by decide) ?_
  exact hK_69 x1 (x3 + 1) μ _ _ _ hP hD hS (lv_sub hl [1, 2, 0] rfl) h
set_option maxHeartbeats 4000000 in
set_option maxRecDepth 100000 in
theorem t_Model_giveBack_69 {p : Program} {l : Launch} {e : Env} {s : State} {m : MethodId} {args : Array Value} {below : List Frame} {meth : Method} {c : Code} {A : Nat → Prop} {D : va_G} {k : Nat → ClassId} {g : Nat → Nat} (C : Cx p s m args meth c D k "PromotionTillModel" b_Model_giveBack 5 (some .int) A) (N : Nat) (post : Int32 → ((St)) → Prop) :
    ∀ (n : Nat) (x1 : Int32) (x3 : Int32) (μ : (St)) (H : Heap) (locs : List Loc) (ls : Array Slot), va_P D CL (wModel k g μ) H → va_D A (wModel k g μ) → va_S A s.heap H locs → lv_has ls 5 [(0, .ref (g 0)), (1, .int x1), (3, .int x3)] → wp_Model_giveBack_69 N post n x1 x3 μ → W p l e rm_Model_giveBack s m args below meth c H locs 0 0 (MQ below (va_Qi post (fun (u : (St)) t => va_P D CL (wModel k g u) t.heap ∧ va_D A (wModel k g u)) A) args s rm_Model_giveBack.cells rm_Model_giveBack.slots A) (F0 m 69 ls []) := by
  obtain ⟨hx, hb, hr, hlk, hml, hown, hts, hK, hA⟩ := id C
  intro n
  induction n with
  | zero =>
    intro x1 x3 μ H locs ls hP hD hS hl h
    exact absurd h (by simp [wp_Model_giveBack_69])
  | succ n ih =>
    intro x1 x3 μ H locs ls hP hD hS hl h
    rw [wp_Model_giveBack_69] at h
    refine lv_iload_n hx hb d_Model_giveBack_69 rfl (lv_at hl 2 rfl) ?_
    refine lv_aload_n hx hb d_Model_giveBack_70 rfl (lv_at hl 0 rfl) ?_
    refine va_get (D := D) (ci := 8) (v := .ref (g 10)) (C := R_Model) (T := F_Model) (N := 40) hx hb hts in_Model hown hK hP 0 rfl rfl 12 (by decide) (hts _ kw_874) (fun _ h9 => h9) rfl d_Model_giveBack_71 ?_
    refine lv_iload_n hx hb d_Model_giveBack_74 rfl (lv_at hl 1 rfl) ?_
    obtain ⟨hi12, h⟩ := h
    refine va_iald hx hb hK hP 10 0 rfl rfl hi12 d_Model_giveBack_75 ?_
    refine lv_icmp_ge (tgt := 149) hx hb d_Model_giveBack_76 (by decide) (fun c13 => ?_) (fun c13 => ?_)
    · replace h := h.1 c13
      refine lv_aload_n hx hb d_Model_giveBack_149 rfl (lv_at hl 0 rfl) ?_
      refine va_get (D := D) (ci := 8) (v := .ref (g 11)) (C := R_Model) (T := F_Model) (N := 40) hx hb hts in_Model hown hK hP 0 rfl rfl 13 (by decide) (hts _ kw_875) (fun _ h9 => h9) rfl d_Model_giveBack_150 ?_
      refine lv_iload_n hx hb d_Model_giveBack_153 rfl (lv_at hl 1 rfl) ?_
      obtain ⟨hi14, h⟩ := h
      refine va_iald hx hb hK hP 11 0 rfl rfl hi14 d_Model_giveBack_154 ?_
      refine lv_aload_n hx hb d_Model_giveBack_155 rfl (lv_at hl 0 rfl) ?_
      refine same_i C hP hD hS (runV (As := []) (rest := [.int (μ 13 (Int32.toNatClampNeg x1))]) C hP hD (m_Model_leastTotal N g μ   _ h H.size) kw_1045 kw_1047 kp_31 kw_12 kw_1048 hd_Model_leastTotal ⟨Nat.le_of_ble_eq_true rfl, Nat.le_of_ble_eq_true rfl⟩ ⟨Nat.le_of_ble_eq_true rfl, Nat.le_of_ble_eq_true rfl⟩ 0 rfl rfl rfl rfl hl.1 (Nat.le_of_ble_eq_true rfl) d_Model_giveBack_156) (fun r16 u15 H locs h hP hD hS => ?_)
      replace hP : va_P D CL (wModel k g u15) H := hP
      replace hD : va_D A (wModel k g u15) := hD
      try dsimp only at h
      refine lv_isub hx hb d_Model_giveBack_159 ?_
      refine lv_istore_n (lv' := [(3, .int ((μ 13 (Int32.toNatClampNeg x1)) - r16)), (0, .ref (g 0)), (1, .int x1)]) hx hb d_Model_giveBack_160 rfl hl (by decide) rfl (fun ls hl => ?_)
      refine lv_iload_n hx hb d_Model_giveBack_161 rfl (lv_at hl 0 rfl) ?_
      refine lv_aload_n hx hb d_Model_giveBack_162 rfl (lv_at hl 1 rfl) ?_
      refine va_get (D := D) (ci := 8) (v := .ref (g 12)) (C := R_Model) (T := F_Model) (N := 40) hx hb hts in_Model hown hK hP 0 rfl rfl 14 (by decide) (hts _ kw_876) (fun _ h9 => h9) rfl d_Model_giveBack_163 ?_
      refine lv_iload_n hx hb d_Model_giveBack_166 rfl (lv_at hl 2 rfl) ?_
      obtain ⟨hi17, h⟩ := h
      refine va_iald hx hb hK hP 12 0 rfl rfl hi17 d_Model_giveBack_167 ?_
      refine lv_icmp_le (tgt := 182) hx hb d_Model_giveBack_168 (by decide) (fun c18 => ?_) (fun c18 => ?_)
      · replace h := h.1 c18
        refine lv_iconst (v := 0) hx hb d_Model_giveBack_182 (by decide) ?_
        exact t_Model_giveBack_183 C N post x1 0 u15 _ _ _ hP hD hS (lv_sub hl [1, 2] rfl) h
      · replace h := h.2 c18
        refine lv_iload_n hx hb d_Model_giveBack_171 rfl (lv_at hl 0 rfl) ?_
        refine lv_aload_n hx hb d_Model_giveBack_172 rfl (lv_at hl 1 rfl) ?_
        refine va_get (D := D) (ci := 8) (v := .ref (g 12)) (C := R_Model) (T := F_Model) (N := 40) hx hb hts in_Model hown hK hP 0 rfl rfl 14 (by decide) (hts _ kw_876) (fun _ h9 => h9) rfl d_Model_giveBack_173 ?_
        refine lv_iload_n hx hb d_Model_giveBack_176 rfl (lv_at hl 2 rfl) ?_
        obtain ⟨hi19, h⟩ := h
        refine va_iald hx hb hK hP 12 0 rfl rfl hi19 d_Model_giveBack_177 ?_
        refine lv_isub hx hb d_Model_giveBack_178 ?_
        refine lv_goto (tgt := 183) hx hb d_Model_giveBack_179 (by decide) ?_
        exact t_Model_giveBack_183 C N post x1 (((μ 13 (Int32.toNatClampNeg x1)) - r16) - (u15 14 (Int32.toNatClampNeg x1))) u15 _ _ _ hP hD hS (lv_sub hl [1, 2] rfl) h
    · replace h := h.2 c13
      refine lv_aload_n hx hb d_Model_giveBack_79 rfl (lv_at hl 0 rfl) ?_
      refine va_get (D := D) (ci := 8) (v := .ref (g 17)) (C := R_Model) (T := F_Model) (N := 40) hx hb hts in_Model hown hK hP 0 rfl rfl 19 (by decide) (hts _ kw_881) (fun _ h9 => h9) rfl d_Model_giveBack_80 ?_
      refine lv_bipush (v := 10) hx hb d_Model_giveBack_83 (by decide) ?_
      refine lv_iload_n hx hb d_Model_giveBack_85 rfl (lv_at hl 1 rfl) ?_
      refine lv_imul hx hb d_Model_giveBack_86 ?_
      refine lv_iload_n hx hb d_Model_giveBack_87 rfl (lv_at hl 2 rfl) ?_
      refine lv_iadd hx hb d_Model_giveBack_88 ?_
      obtain ⟨hi20, h⟩ := h
      refine va_zald hx hb hK hP 17 1 rfl rfl hi20 d_Model_giveBack_89 ?_
      refine lv_if_ne (tgt := 143) hx hb d_Model_giveBack_90 (by decide) (fun c21 => ?_) (fun c21 => ?_)
      · replace h := h.1 c21
        exact t_Model_giveBack_143 C N post (wp_Model_giveBack_69 N post n) ih x1 x3 μ _ _ _ hP hD hS (lv_sub hl [0, 1, 2] rfl) h
      · replace h := h.2 c21
        refine lv_aload_n hx hb d_Model_giveBack_93 rfl (lv_at hl 0 rfl) ?_
        refine va_get (D := D) (ci := 8) (v := .ref (g 18)) (C := R_Model) (T := F_Model) (N := 40) hx hb hts in_Model hown hK hP 0 rfl rfl 20 (by decide) (hts _ kw_882) (fun _ h9 => h9) rfl d_Model_giveBack_94 ?_
        refine lv_aload_n hx hb d_Model_giveBack_97 rfl (lv_at hl 0 rfl) ?_
        refine va_get (D := D) (ci := 8) (v := .int (μ 22 0)) (C := R_Model) (T := F_Model) (N := 40) hx hb hts in_Model hown hK hP 0 rfl rfl 22 (by decide) (hts _ kw_884) (fun _ h9 => h9) rfl d_Model_giveBack_98 ?_
        refine lv_aload_n hx hb d_Model_giveBack_101 rfl (lv_at hl 0 rfl) ?_
        refine va_get (D := D) (ci := 8) (v := .ref (g 13)) (C := R_Model) (T := F_Model) (N := 40) hx hb hts in_Model hown hK hP 0 rfl rfl 15 (by decide) (hts _ kw_877) (fun _ h9 => h9) rfl d_Model_giveBack_102 ?_
        refine lv_bipush (v := 10) hx hb d_Model_giveBack_105 (by decide) ?_
        refine lv_iload_n hx hb d_Model_giveBack_107 rfl (lv_at hl 1 rfl) ?_
        refine lv_imul hx hb d_Model_giveBack_108 ?_
        refine lv_iload_n hx hb d_Model_giveBack_109 rfl (lv_at hl 2 rfl) ?_
        refine lv_iadd hx hb d_Model_giveBack_110 ?_
        obtain ⟨hi22, h⟩ := h
        refine va_iald hx hb hK hP 13 0 rfl rfl hi22 d_Model_giveBack_111 ?_
        obtain ⟨hi23, h⟩ := h
        refine va_iast hx hb hK hP hD hS 18 0 rfl rfl hi23 d_Model_giveBack_112 (fun H locs hP hD hS => ?_)
        obtain ⟨μ24, eμ24⟩ : ∃ z, z = s2 μ 20 (Int32.toNatClampNeg (μ 22 0)) (μ 15 (Int32.toNatClampNeg ((10 * x1) + x3))) := ⟨_, rfl⟩
        replace hP : va_P D CL (wModel k g μ24) H := by rw [eμ24]; exact hP
        replace hD : va_D A (wModel k g μ24) := by rw [eμ24]; exact hD
        replace h := h μ24 eμ24
        refine lv_aload_n hx hb d_Model_giveBack_113 rfl (lv_at hl 0 rfl) ?_
        refine va_get (D := D) (ci := 8) (v := .ref (g 19)) (C := R_Model) (T := F_Model) (N := 40) hx hb hts in_Model hown hK hP 0 rfl rfl 21 (by decide) (hts _ kw_883) (fun _ h9 => h9) rfl d_Model_giveBack_114 ?_
        refine lv_aload_n hx hb d_Model_giveBack_117 rfl (lv_at hl 0 rfl) ?_
        refine va_get (D := D) (ci := 8) (v := .int (μ24 22 0)) (C := R_Model) (T := F_Model) (N := 40) hx hb hts in_Model hown hK hP 0 rfl rfl 22 (by decide) (hts _ kw_884) (fun _ h9 => h9) rfl d_Model_giveBack_118 ?_
        refine lv_aload_n hx hb d_Model_giveBack_121 rfl (lv_at hl 0 rfl) ?_
        refine va_get (D := D) (ci := 8) (v := .ref (g 14)) (C := R_Model) (T := F_Model) (N := 40) hx hb hts in_Model hown hK hP 0 rfl rfl 16 (by decide) (hts _ kw_878) (fun _ h9 => h9) rfl d_Model_giveBack_122 ?_
        refine lv_bipush (v := 10) hx hb d_Model_giveBack_125 (by decide) ?_
        refine lv_iload_n hx hb d_Model_giveBack_127 rfl (lv_at hl 1 rfl) ?_
        refine lv_imul hx hb d_Model_giveBack_128 ?_
        refine lv_iload_n hx hb d_Model_giveBack_129 rfl (lv_at hl 2 rfl) ?_
        refine lv_iadd hx hb d_Model_giveBack_130 ?_
        obtain ⟨hi25, h⟩ := h
        refine va_iald hx hb hK hP 14 0 rfl rfl hi25 d_Model_giveBack_131 ?_
        obtain ⟨hi26, h⟩ := h
        refine va_iast hx hb hK hP hD hS 19 0 rfl rfl hi26 d_Model_giveBack_132 (fun H locs hP hD hS => ?_)
        obtain ⟨μ27, eμ27⟩ : ∃ z, z = s2 μ24 21 (Int32.toNatClampNeg (μ24 22 0)) (μ24 16 (Int32.toNatClampNeg ((10 * x1) + x3))) := ⟨_, rfl⟩
        replace hP : va_P D CL (wModel k g μ27) H := by rw [eμ27]; exact hP
        replace hD : va_D A (wModel k g μ27) := by rw [eμ27]; exact hD
        replace h := h μ27 eμ27
        refine lv_aload_n hx hb d_Model_giveBack_133 rfl (lv_at hl 0 rfl) ?_
        refine lv_dup hx hb d_Model_giveBack_134 rfl ?_
        refine va_get (D := D) (ci := 8) (v := .int (μ27 22 0)) (C := R_Model) (T := F_Model) (N := 40) hx hb hts in_Model hown hK hP 0 rfl rfl 22 (by decide) (hts _ kw_884) (fun _ h9 => h9) rfl d_Model_giveBack_135 ?_
        refine lv_iconst (v := 1) hx hb d_Model_giveBack_138 (by decide) ?_
        refine lv_iadd hx hb d_Model_giveBack_139 ?_
        refine va_put (D := D) (ci := 8) (v := .int ((μ27 22 0) + 1)) (ty := .int) (C := R_Model) (T := F_Model) (N := 40) hx hb hts in_Model t_Model tt_Model n_Model hown hK hP hD hS 0 rfl rfl 22 (by decide) (hts _ kw_884) (fun _ h9 => h9) rfl (by decide +kernel) rfl rfl (Nat.le_of_ble_eq_true rfl) d_Model_giveBack_140 (fun H locs hP hD hS => ?_)
        obtain ⟨μ28, eμ28⟩ : ∃ z, z = s2 μ27 22 0 ((μ27 22 0) + 1) := ⟨_, rfl⟩
        replace hP : va_P D CL (wModel k g μ28) H := by rw [eμ28]; exact hP
        replace hD : va_D A (wModel k g μ28) := by rw [eμ28]; exact hD
        replace h := h μ28 eμ28
        exact t_Model_giveBack_143 C N post (wp_Model_giveBack_69 N post n) ih x1 x3 μ28 _ _ _ hP hD hS (lv_sub hl [0, 1, 2] rfl) h
set_option maxHeartbeats 4000000 in
set_option maxRecDepth 100000 in
theorem t_Model_giveBack_33 {p : Program} {l : Launch} {e : Env} {s : State} {m : MethodId} {args : Array Value} {below : List Frame} {meth : Method} {c : Code} {A : Nat → Prop} {D : va_G} {k : Nat → ClassId} {g : Nat → Nat} (C : Cx p s m args meth c D k "PromotionTillModel" b_Model_giveBack 5 (some .int) A) (N : Nat) (post : Int32 → ((St)) → Prop) :
    ∀ (x1 : Int32) (x2 : Int32) (y0 : Int32) (μ : (St)) (H : Heap) (locs : List Loc) (ls : Array Slot), va_P D CL (wModel k g μ) H → va_D A (wModel k g μ) → va_S A s.heap H locs → lv_has ls 5 [(0, .ref (g 0)), (1, .int x1), (2, .int x2)] → wp_Model_giveBack_33 N post x1 x2 y0 μ → W p l e rm_Model_giveBack s m args below meth c H locs 0 0 (MQ below (va_Qi post (fun (u : (St)) t => va_P D CL (wModel k g u) t.heap ∧ va_D A (wModel k g u)) A) args s rm_Model_giveBack.cells rm_Model_giveBack.slots A) (F0 m 33 ls [.int y0, .ref (g 0)]) := by
  obtain ⟨hx, hb, hr, hlk, hml, hown, hts, hK, hA⟩ := id C
  intro x1 x2 y0 μ H locs ls hP hD hS hl h
  unfold wp_Model_giveBack_33 at h
  refine va_put (D := D) (ci := 8) (v := .int y0) (ty := .int) (C := R_Model) (T := F_Model) (N := 40) hx hb hts in_Model t_Model tt_Model n_Model hown hK hP hD hS 0 rfl rfl 39 (by decide) (hts _ kw_901) (fun _ h9 => h9) rfl (by decide +kernel) rfl rfl (Nat.le_of_ble_eq_true rfl) d_Model_giveBack_33 (fun H locs hP hD hS => ?_)
  obtain ⟨μ6, eμ6⟩ : ∃ z, z = s2 μ 39 0 y0 := ⟨_, rfl⟩
  replace hP : va_P D CL (wModel k g μ6) H := by rw [eμ6]; exact hP
  replace hD : va_D A (wModel k g μ6) := by rw [eμ6]; exact hD
  replace h := h μ6 eμ6
  refine lv_aload_n hx hb d_Model_giveBack_36 rfl (lv_at hl 0 rfl) ?_
  refine va_get (D := D) (ci := 8) (v := .int (μ6 39 0)) (C := R_Model) (T := F_Model) (N := 40) hx hb hts in_Model hown hK hP 0 rfl rfl 39 (by decide) (hts _ kw_901) (fun _ h9 => h9) rfl d_Model_giveBack_37 ?_
  refine lv_if_eq (tgt := 45) hx hb d_Model_giveBack_40 (by decide) (fun c7 => ?_) (fun c7 => ?_)
  · replace h := h.1 c7
    refine lv_aload_n hx hb d_Model_giveBack_45 rfl (lv_at hl 0 rfl) ?_
    refine va_get (D := D) (ci := 8) (v := .ref (g 17)) (C := R_Model) (T := F_Model) (N := 40) hx hb hts in_Model hown hK hP 0 rfl rfl 19 (by decide) (hts _ kw_881) (fun _ h9 => h9) rfl d_Model_giveBack_46 ?_
    refine lv_bipush (v := 10) hx hb d_Model_giveBack_49 (by decide) ?_
    refine lv_iload_n hx hb d_Model_giveBack_51 rfl (lv_at hl 1 rfl) ?_
    refine lv_imul hx hb d_Model_giveBack_52 ?_
    refine lv_iload_n hx hb d_Model_giveBack_53 rfl (lv_at hl 2 rfl) ?_
    refine lv_iadd hx hb d_Model_giveBack_54 ?_
    refine lv_iconst (v := 1) hx hb d_Model_giveBack_55 (by decide) ?_
    obtain ⟨hi8, h⟩ := h
    refine va_zast hx hb hK hP hD hS 17 1 rfl rfl hi8 d_Model_giveBack_56 (fun H locs hP hD hS => ?_)
    obtain ⟨μ9, eμ9⟩ : ∃ z, z = s2 μ6 19 (Int32.toNatClampNeg ((10 * x1) + x2)) (vp_nar .boolean 1) := ⟨_, rfl⟩
    replace hP : va_P D CL (wModel k g μ9) H := by rw [eμ9]; exact hP
    replace hD : va_D A (wModel k g μ9) := by rw [eμ9]; exact hD
    replace h := h μ9 eμ9
    refine lv_aload_n hx hb d_Model_giveBack_57 rfl (lv_at hl 0 rfl) ?_
    refine lv_iload_n hx hb d_Model_giveBack_58 rfl (lv_at hl 1 rfl) ?_
    refine va_put (D := D) (ci := 8) (v := .int x1) (ty := .int) (C := R_Model) (T := F_Model) (N := 40) hx hb hts in_Model t_Model tt_Model n_Model hown hK hP hD hS 0 rfl rfl 23 (by decide) (hts _ kw_885) (fun _ h9 => h9) rfl (by decide +kernel) rfl rfl (Nat.le_of_ble_eq_true rfl) d_Model_giveBack_59 (fun H locs hP hD hS => ?_)
    obtain ⟨μ10, eμ10⟩ : ∃ z, z = s2 μ9 23 0 x1 := ⟨_, rfl⟩
    replace hP : va_P D CL (wModel k g μ10) H := by rw [eμ10]; exact hP
    replace hD : va_D A (wModel k g μ10) := by rw [eμ10]; exact hD
    replace h := h μ10 eμ10
    refine lv_aload_n hx hb d_Model_giveBack_62 rfl (lv_at hl 0 rfl) ?_
    refine lv_iconst (v := 0) hx hb d_Model_giveBack_63 (by decide) ?_
    refine va_put (D := D) (ci := 8) (v := .int 0) (ty := .int) (C := R_Model) (T := F_Model) (N := 40) hx hb hts in_Model t_Model tt_Model n_Model hown hK hP hD hS 0 rfl rfl 22 (by decide) (hts _ kw_884) (fun _ h9 => h9) rfl (by decide +kernel) rfl rfl (Nat.le_of_ble_eq_true rfl) d_Model_giveBack_64 (fun H locs hP hD hS => ?_)
    obtain ⟨μ11, eμ11⟩ : ∃ z, z = s2 μ10 22 0 0 := ⟨_, rfl⟩
    replace hP : va_P D CL (wModel k g μ11) H := by rw [eμ11]; exact hP
    replace hD : va_D A (wModel k g μ11) := by rw [eμ11]; exact hD
    replace h := h μ11 eμ11
    refine lv_iconst (v := 0) hx hb d_Model_giveBack_67 (by decide) ?_
    refine lv_istore_n (lv' := [(3, .int 0), (0, .ref (g 0)), (1, .int x1), (2, .int x2)]) hx hb d_Model_giveBack_68 rfl hl (by decide) rfl (fun ls hl => ?_)
    exact t_Model_giveBack_69 C N post   N x1 0 μ11 _ _ _ hP hD hS (lv_sub hl [1, 2, 0] rfl) h
  · replace h := h.2 c7
    refine lv_iconst (v := 0) hx hb d_Model_giveBack_43 (by decide) ?_
    exact ret_i (u := μ6) (wf := (fun u : (St) => wModel k g u)) C hP hD hS (Nat.zero_le _) (Nat.zero_le _) h d_Model_giveBack_44
set_option maxHeartbeats 4000000 in
set_option maxRecDepth 100000 in
theorem m_Model_giveBack {l : Launch} {D : va_G} {k : Nat → ClassId} (N : Nat) (g : Nat → Nat) (μ : St) (x1 : Int32) (x2 : Int32) (post : Int32 → ((St)) → Prop) (h : wp_Model_giveBack N  μ x1 x2 post) : Ci l D k y_Model_giveBack b_Model_giveBack 5 .int rm_Model_giveBack [.ref (g 0), .int x1, .int x2] (wModel k g μ) (fun u : (St) => wModel k g u) post := by
  refine Ci.of (by decide) (Nat.le_of_ble_eq_true rfl) ?_
  intro p e s m below meth c A H locs ls C hP hD hS hl
  obtain ⟨hx, hb, hr, hlk, hml, hown, hts, hK, hA⟩ := id C
  replace hl : lv_has ls 5 [(0, .ref (g 0)), (1, .int x1), (2, .int x2)] := hl
  unfold wp_Model_giveBack at h
  refine lv_aload_n hx hb d_Model_giveBack_0 rfl (lv_at hl 0 rfl) ?_
  refine lv_aload_n hx hb d_Model_giveBack_1 rfl (lv_at hl 0 rfl) ?_
  refine lv_iload_n hx hb d_Model_giveBack_2 rfl (lv_at hl 1 rfl) ?_
  refine lv_iload_n hx hb d_Model_giveBack_3 rfl (lv_at hl 2 rfl) ?_
  refine same_i C hP hD hS (runV (As := [.int x1, .int x2]) (rest := [.ref (g 0)]) C hP hD (m_Model_isLine N g μ x1 x2  _ h H.size) kw_1139 kw_1141 kp_49 kw_12 kw_1142 hd_Model_isLine ⟨Nat.le_of_ble_eq_true rfl, Nat.le_of_ble_eq_true rfl⟩ ⟨Nat.le_of_ble_eq_true rfl, Nat.le_of_ble_eq_true rfl⟩ 0 rfl rfl rfl rfl hl.1 (Nat.le_of_ble_eq_true rfl) d_Model_giveBack_4) (fun r2 u1 H locs h hP hD hS => ?_)
  replace hP : va_P D CL (wModel k g μ) H := hP
  replace hD : va_D A (wModel k g μ) := hD
  try dsimp only at h
  refine lv_if_ne (tgt := 14) hx hb d_Model_giveBack_7 (by decide) (fun c3 => ?_) (fun c3 => ?_)
  · replace h := h.1 c3
    refine lv_aload_n hx hb d_Model_giveBack_14 rfl (lv_at hl 0 rfl) ?_
    refine va_get (D := D) (ci := 8) (v := .ref (g 17)) (C := R_Model) (T := F_Model) (N := 40) hx hb hts in_Model hown hK hP 0 rfl rfl 19 (by decide) (hts _ kw_881) (fun _ h9 => h9) rfl d_Model_giveBack_15 ?_
    refine lv_bipush (v := 10) hx hb d_Model_giveBack_18 (by decide) ?_
    refine lv_iload_n hx hb d_Model_giveBack_20 rfl (lv_at hl 1 rfl) ?_
    refine lv_imul hx hb d_Model_giveBack_21 ?_
    refine lv_iload_n hx hb d_Model_giveBack_22 rfl (lv_at hl 2 rfl) ?_
    refine lv_iadd hx hb d_Model_giveBack_23 ?_
    obtain ⟨hi4, h⟩ := h
    refine va_zald hx hb hK hP 17 1 rfl rfl hi4 d_Model_giveBack_24 ?_
    refine lv_if_eq (tgt := 32) hx hb d_Model_giveBack_25 (by decide) (fun c5 => ?_) (fun c5 => ?_)
    · replace h := h.1 c5
      refine lv_iconst (v := 0) hx hb d_Model_giveBack_32 (by decide) ?_
      exact t_Model_giveBack_33 C N post x1 x2 0 μ _ _ _ hP hD hS (lv_sub hl [0, 1, 2] rfl) h
    · replace h := h.2 c5
      refine lv_iconst (v := 2) hx hb d_Model_giveBack_28 (by decide) ?_
      refine lv_goto (tgt := 33) hx hb d_Model_giveBack_29 (by decide) ?_
      exact t_Model_giveBack_33 C N post x1 x2 2 μ _ _ _ hP hD hS (lv_sub hl [0, 1, 2] rfl) h
  · replace h := h.2 c3
    refine lv_iconst (v := 1) hx hb d_Model_giveBack_10 (by decide) ?_
    refine lv_goto (tgt := 33) hx hb d_Model_giveBack_11 (by decide) ?_
    exact t_Model_giveBack_33 C N post x1 x2 1 μ _ _ _ hP hD hS (lv_sub hl [0, 1, 2] rfl) h
set_option maxHeartbeats 4000000 in
set_option maxRecDepth 100000 in
theorem t_Model_receipt_104 {p : Program} {l : Launch} {e : Env} {s : State} {m : MethodId} {args : Array Value} {below : List Frame} {meth : Method} {c : Code} {A : Nat → Prop} {D : va_G} {k : Nat → ClassId} {g : Nat → Nat} (C : Cx p s m args meth c D k "PromotionTillModel" b_Model_receipt 5 (some .int) A) (N : Nat) (post : Int32 → ((St)) → Prop) (K_75 : Int32 → Int32 → Int32 → Int32 → (St) → Prop) (hK_75 : ∀ (x1 : Int32) (x2 : Int32) (x3 : Int32) (x4 : Int32) (μ : (St)) (H : Heap) (locs : List Loc) (ls : Array Slot), va_P D CL (wModel k g μ) H → va_D A (wModel k g μ) → va_S A s.heap H locs → lv_has ls 5 [(0, .ref (g 0)), (1, .int x1), (2, .int x2), (3, .int x3), (4, .int x4)] → K_75 x1 x2 x3 x4 μ → W p l e rm_Model_receipt s m args below meth c H locs 0 0 (MQ below (va_Qi post (fun (u : (St)) t => va_P D CL (wModel k g u) t.heap ∧ va_D A (wModel k g u)) A) args s rm_Model_receipt.cells rm_Model_receipt.slots A) (F0 m 75 ls [])) :
    ∀ (x1 : Int32) (x2 : Int32) (x3 : Int32) (x4 : Int32) (μ : (St)) (H : Heap) (locs : List Loc) (ls : Array Slot), va_P D CL (wModel k g μ) H → va_D A (wModel k g μ) → va_S A s.heap H locs → lv_has ls 5 [(0, .ref (g 0)), (1, .int x1), (2, .int x2), (3, .int x3), (4, .int x4)] → wp_Model_receipt_104 N post K_75 x1 x2 x3 x4 μ → W p l e rm_Model_receipt s m args below meth c H locs 0 0 (MQ below (va_Qi post (fun (u : (St)) t => va_P D CL (wModel k g u) t.heap ∧ va_D A (wModel k g u)) A) args s rm_Model_receipt.cells rm_Model_receipt.slots A) (F0 m 104 ls []) := by
  obtain ⟨hx, hb, hr, hlk, hml, hown, hts, hK, hA⟩ := id C
  intro x1 x2 x3 x4 μ H locs ls hP hD hS hl h
  unfold wp_Model_receipt_104 at h
  refine lv_iinc (v := x4 + 1) (lv' := [(4, .int (x4 + 1)), (0, .ref (g 0)), (1, .int x1), (2, .int x2), (3, .int x3)]) hx hb d_Model_receipt_104 hl (k := 4) rfl rfl (by decide) rfl (fun ls hl => ?_)
  refine lv_goto (tgt := 75) hx hb d_Model_receipt_107 (by decide) ?_
  exact hK_75 x1 x2 x3 (x4 + 1) μ _ _ _ hP hD hS (lv_sub hl [1, 2, 3, 4, 0] rfl) h
set_option maxHeartbeats 4000000 in
set_option maxRecDepth 100000 in
theorem t_Model_receipt_75 {p : Program} {l : Launch} {e : Env} {s : State} {m : MethodId} {args : Array Value} {below : List Frame} {meth : Method} {c : Code} {A : Nat → Prop} {D : va_G} {k : Nat → ClassId} {g : Nat → Nat} (C : Cx p s m args meth c D k "PromotionTillModel" b_Model_receipt 5 (some .int) A) (N : Nat) (post : Int32 → ((St)) → Prop) :
    ∀ (n : Nat) (x1 : Int32) (x2 : Int32) (x3 : Int32) (x4 : Int32) (μ : (St)) (H : Heap) (locs : List Loc) (ls : Array Slot), va_P D CL (wModel k g μ) H → va_D A (wModel k g μ) → va_S A s.heap H locs → lv_has ls 5 [(0, .ref (g 0)), (1, .int x1), (2, .int x2), (3, .int x3), (4, .int x4)] → wp_Model_receipt_75 N post n x1 x2 x3 x4 μ → W p l e rm_Model_receipt s m args below meth c H locs 0 0 (MQ below (va_Qi post (fun (u : (St)) t => va_P D CL (wModel k g u) t.heap ∧ va_D A (wModel k g u)) A) args s rm_Model_receipt.cells rm_Model_receipt.slots A) (F0 m 75 ls []) := by
  obtain ⟨hx, hb, hr, hlk, hml, hown, hts, hK, hA⟩ := id C
  intro n
  induction n with
  | zero =>
    intro x1 x2 x3 x4 μ H locs ls hP hD hS hl h
    exact absurd h (by simp [wp_Model_receipt_75])
  | succ n ih =>
    intro x1 x2 x3 x4 μ H locs ls hP hD hS hl h
    rw [wp_Model_receipt_75] at h
    refine lv_iload hx hb d_Model_receipt_75 (lv_at hl 4 rfl) ?_
    refine lv_aload_n hx hb d_Model_receipt_77 rfl (lv_at hl 0 rfl) ?_
    refine va_get (D := D) (ci := 8) (v := .ref (g 10)) (C := R_Model) (T := F_Model) (N := 40) hx hb hts in_Model hown hK hP 0 rfl rfl 12 (by decide) (hts _ kw_874) (fun _ h9 => h9) rfl d_Model_receipt_78 ?_
    refine lv_iload_n hx hb d_Model_receipt_81 rfl (lv_at hl 1 rfl) ?_
    obtain ⟨hi12, h⟩ := h
    refine va_iald hx hb hK hP 10 0 rfl rfl hi12 d_Model_receipt_82 ?_
    refine lv_icmp_ge (tgt := 110) hx hb d_Model_receipt_83 (by decide) (fun c13 => ?_) (fun c13 => ?_)
    · replace h := h.1 c13
      refine lv_iload_n hx hb d_Model_receipt_110 rfl (lv_at hl 2 rfl) ?_
      refine lv_if_ne (tgt := 123) hx hb d_Model_receipt_111 (by decide) (fun c14 => ?_) (fun c14 => ?_)
      · replace h := h.1 c14
        refine lv_iload_n hx hb d_Model_receipt_123 rfl (lv_at hl 2 rfl) ?_
        refine lv_iconst (v := 1) hx hb d_Model_receipt_124 (by decide) ?_
        refine lv_icmp_ne (tgt := 137) hx hb d_Model_receipt_125 (by decide) (fun c15 => ?_) (fun c15 => ?_)
        · replace h := h.1 c15
          refine lv_iload_n hx hb d_Model_receipt_137 rfl (lv_at hl 2 rfl) ?_
          refine lv_iconst (v := 2) hx hb d_Model_receipt_138 (by decide) ?_
          refine lv_icmp_ne (tgt := 151) hx hb d_Model_receipt_139 (by decide) (fun c16 => ?_) (fun c16 => ?_)
          · replace h := h.1 c16
            refine lv_iload_n hx hb d_Model_receipt_151 rfl (lv_at hl 3 rfl) ?_
            exact ret_i (u := μ) (wf := (fun u : (St) => wModel k g u)) C hP hD hS (Nat.zero_le _) (Nat.zero_le _) h d_Model_receipt_152
          · replace h := h.2 c16
            refine lv_aload_n hx hb d_Model_receipt_142 rfl (lv_at hl 0 rfl) ?_
            refine va_get (D := D) (ci := 8) (v := .ref (g 10)) (C := R_Model) (T := F_Model) (N := 40) hx hb hts in_Model hown hK hP 0 rfl rfl 12 (by decide) (hts _ kw_874) (fun _ h9 => h9) rfl d_Model_receipt_143 ?_
            refine lv_iload_n hx hb d_Model_receipt_146 rfl (lv_at hl 1 rfl) ?_
            obtain ⟨hi17, h⟩ := h
            refine va_iald hx hb hK hP 10 0 rfl rfl hi17 d_Model_receipt_147 ?_
            refine lv_goto (tgt := 152) hx hb d_Model_receipt_148 (by decide) ?_
            exact ret_i (u := μ) (wf := (fun u : (St) => wModel k g u)) C hP hD hS (Nat.zero_le _) (Nat.zero_le _) h d_Model_receipt_152
        · replace h := h.2 c15
          refine lv_aload_n hx hb d_Model_receipt_128 rfl (lv_at hl 0 rfl) ?_
          refine va_get (D := D) (ci := 8) (v := .ref (g 12)) (C := R_Model) (T := F_Model) (N := 40) hx hb hts in_Model hown hK hP 0 rfl rfl 14 (by decide) (hts _ kw_876) (fun _ h9 => h9) rfl d_Model_receipt_129 ?_
          refine lv_iload_n hx hb d_Model_receipt_132 rfl (lv_at hl 1 rfl) ?_
          obtain ⟨hi18, h⟩ := h
          refine va_iald hx hb hK hP 12 0 rfl rfl hi18 d_Model_receipt_133 ?_
          refine lv_goto (tgt := 152) hx hb d_Model_receipt_134 (by decide) ?_
          exact ret_i (u := μ) (wf := (fun u : (St) => wModel k g u)) C hP hD hS (Nat.zero_le _) (Nat.zero_le _) h d_Model_receipt_152
      · replace h := h.2 c14
        refine lv_aload_n hx hb d_Model_receipt_114 rfl (lv_at hl 0 rfl) ?_
        refine va_get (D := D) (ci := 8) (v := .ref (g 11)) (C := R_Model) (T := F_Model) (N := 40) hx hb hts in_Model hown hK hP 0 rfl rfl 13 (by decide) (hts _ kw_875) (fun _ h9 => h9) rfl d_Model_receipt_115 ?_
        refine lv_iload_n hx hb d_Model_receipt_118 rfl (lv_at hl 1 rfl) ?_
        obtain ⟨hi19, h⟩ := h
        refine va_iald hx hb hK hP 11 0 rfl rfl hi19 d_Model_receipt_119 ?_
        refine lv_goto (tgt := 152) hx hb d_Model_receipt_120 (by decide) ?_
        exact ret_i (u := μ) (wf := (fun u : (St) => wModel k g u)) C hP hD hS (Nat.zero_le _) (Nat.zero_le _) h d_Model_receipt_152
    · replace h := h.2 c13
      refine lv_aload_n hx hb d_Model_receipt_86 rfl (lv_at hl 0 rfl) ?_
      refine va_get (D := D) (ci := 8) (v := .ref (g 17)) (C := R_Model) (T := F_Model) (N := 40) hx hb hts in_Model hown hK hP 0 rfl rfl 19 (by decide) (hts _ kw_881) (fun _ h9 => h9) rfl d_Model_receipt_87 ?_
      refine lv_bipush (v := 10) hx hb d_Model_receipt_90 (by decide) ?_
      refine lv_iload_n hx hb d_Model_receipt_92 rfl (lv_at hl 1 rfl) ?_
      refine lv_imul hx hb d_Model_receipt_93 ?_
      refine lv_iload hx hb d_Model_receipt_94 (lv_at hl 4 rfl) ?_
      refine lv_iadd hx hb d_Model_receipt_96 ?_
      obtain ⟨hi20, h⟩ := h
      refine va_zald hx hb hK hP 17 1 rfl rfl hi20 d_Model_receipt_97 ?_
      refine lv_if_ne (tgt := 104) hx hb d_Model_receipt_98 (by decide) (fun c21 => ?_) (fun c21 => ?_)
      · replace h := h.1 c21
        exact t_Model_receipt_104 C N post (wp_Model_receipt_75 N post n) ih x1 x2 x3 x4 μ _ _ _ hP hD hS (lv_sub hl [0, 1, 2, 3, 4] rfl) h
      · replace h := h.2 c21
        refine lv_iinc (v := x3 + 1) (lv' := [(3, .int (x3 + 1)), (0, .ref (g 0)), (1, .int x1), (2, .int x2), (4, .int x4)]) hx hb d_Model_receipt_101 hl (k := 3) rfl rfl (by decide) rfl (fun ls hl => ?_)
        exact t_Model_receipt_104 C N post (wp_Model_receipt_75 N post n) ih x1 x2 (x3 + 1) x4 μ _ _ _ hP hD hS (lv_sub hl [1, 2, 3, 0, 4] rfl) h
set_option maxHeartbeats 4000000 in
set_option maxRecDepth 100000 in
theorem t_Model_receipt_38 {p : Program} {l : Launch} {e : Env} {s : State} {m : MethodId} {args : Array Value} {below : List Frame} {meth : Method} {c : Code} {A : Nat → Prop} {D : va_G} {k : Nat → ClassId} {g : Nat → Nat} (C : Cx p s m args meth c D k "PromotionTillModel" b_Model_receipt 5 (some .int) A) (N : Nat) (post : Int32 → ((St)) → Prop) :
    ∀ (x1 : Int32) (x2 : Int32) (y0 : Int32) (μ : (St)) (H : Heap) (locs : List Loc) (ls : Array Slot), va_P D CL (wModel k g μ) H → va_D A (wModel k g μ) → va_S A s.heap H locs → lv_has ls 5 [(0, .ref (g 0)), (1, .int x1), (2, .int x2)] → wp_Model_receipt_38 N post x1 x2 y0 μ → W p l e rm_Model_receipt s m args below meth c H locs 0 0 (MQ below (va_Qi post (fun (u : (St)) t => va_P D CL (wModel k g u) t.heap ∧ va_D A (wModel k g u)) A) args s rm_Model_receipt.cells rm_Model_receipt.slots A) (F0 m 38 ls [.int y0, .ref (g 0)]) := by
  obtain ⟨hx, hb, hr, hlk, hml, hown, hts, hK, hA⟩ := id C
  intro x1 x2 y0 μ H locs ls hP hD hS hl h
  unfold wp_Model_receipt_38 at h
  refine va_put (D := D) (ci := 8) (v := .int y0) (ty := .int) (C := R_Model) (T := F_Model) (N := 40) hx hb hts in_Model t_Model tt_Model n_Model hown hK hP hD hS 0 rfl rfl 39 (by decide) (hts _ kw_901) (fun _ h9 => h9) rfl (by decide +kernel) rfl rfl (Nat.le_of_ble_eq_true rfl) d_Model_receipt_38 (fun H locs hP hD hS => ?_)
  obtain ⟨μ8, eμ8⟩ : ∃ z, z = s2 μ 39 0 y0 := ⟨_, rfl⟩
  replace hP : va_P D CL (wModel k g μ8) H := by rw [eμ8]; exact hP
  replace hD : va_D A (wModel k g μ8) := by rw [eμ8]; exact hD
  replace h := h μ8 eμ8
  refine lv_aload_n hx hb d_Model_receipt_41 rfl (lv_at hl 0 rfl) ?_
  refine va_get (D := D) (ci := 8) (v := .int (μ8 39 0)) (C := R_Model) (T := F_Model) (N := 40) hx hb hts in_Model hown hK hP 0 rfl rfl 39 (by decide) (hts _ kw_901) (fun _ h9 => h9) rfl d_Model_receipt_42 ?_
  refine lv_if_eq (tgt := 50) hx hb d_Model_receipt_45 (by decide) (fun c9 => ?_) (fun c9 => ?_)
  · replace h := h.1 c9
    refine lv_iload_n hx hb d_Model_receipt_50 rfl (lv_at hl 2 rfl) ?_
    refine lv_iconst (v := 4) hx hb d_Model_receipt_51 (by decide) ?_
    refine lv_icmp_ne (tgt := 60) hx hb d_Model_receipt_52 (by decide) (fun c10 => ?_) (fun c10 => ?_)
    · replace h := h.1 c10
      refine lv_iload_n hx hb d_Model_receipt_60 rfl (lv_at hl 2 rfl) ?_
      refine lv_iconst (v := 5) hx hb d_Model_receipt_61 (by decide) ?_
      refine lv_icmp_ne (tgt := 70) hx hb d_Model_receipt_62 (by decide) (fun c11 => ?_) (fun c11 => ?_)
      · replace h := h.1 c11
        refine lv_iconst (v := 0) hx hb d_Model_receipt_70 (by decide) ?_
        refine lv_istore_n (lv' := [(3, .int 0), (0, .ref (g 0)), (1, .int x1), (2, .int x2)]) hx hb d_Model_receipt_71 rfl hl (by decide) rfl (fun ls hl => ?_)
        refine lv_iconst (v := 0) hx hb d_Model_receipt_72 (by decide) ?_
        refine lv_istore (lv' := [(4, .int 0), (3, .int 0), (0, .ref (g 0)), (1, .int x1), (2, .int x2)]) hx hb d_Model_receipt_73 hl (by decide) rfl (fun ls hl => ?_)
        exact t_Model_receipt_75 C N post   N x1 x2 0 0 μ8 _ _ _ hP hD hS (lv_sub hl [2, 3, 4, 1, 0] rfl) h
      · replace h := h.2 c11
        refine lv_aload_n hx hb d_Model_receipt_65 rfl (lv_at hl 0 rfl) ?_
        refine va_get (D := D) (ci := 8) (v := .int (μ8 11 0)) (C := R_Model) (T := F_Model) (N := 40) hx hb hts in_Model hown hK hP 0 rfl rfl 11 (by decide) (hts _ kw_873) (fun _ h9 => h9) rfl d_Model_receipt_66 ?_
        exact ret_i (u := μ8) (wf := (fun u : (St) => wModel k g u)) C hP hD hS (Nat.zero_le _) (Nat.zero_le _) h d_Model_receipt_69
    · replace h := h.2 c10
      refine lv_aload_n hx hb d_Model_receipt_55 rfl (lv_at hl 0 rfl) ?_
      refine va_get (D := D) (ci := 8) (v := .int (μ8 10 0)) (C := R_Model) (T := F_Model) (N := 40) hx hb hts in_Model hown hK hP 0 rfl rfl 10 (by decide) (hts _ kw_872) (fun _ h9 => h9) rfl d_Model_receipt_56 ?_
      exact ret_i (u := μ8) (wf := (fun u : (St) => wModel k g u)) C hP hD hS (Nat.zero_le _) (Nat.zero_le _) h d_Model_receipt_59
  · replace h := h.2 c9
    refine lv_iconst (v := 0) hx hb d_Model_receipt_48 (by decide) ?_
    exact ret_i (u := μ8) (wf := (fun u : (St) => wModel k g u)) C hP hD hS (Nat.zero_le _) (Nat.zero_le _) h d_Model_receipt_49
set_option maxHeartbeats 4000000 in
set_option maxRecDepth 100000 in
theorem t_Model_receipt_37 {p : Program} {l : Launch} {e : Env} {s : State} {m : MethodId} {args : Array Value} {below : List Frame} {meth : Method} {c : Code} {A : Nat → Prop} {D : va_G} {k : Nat → ClassId} {g : Nat → Nat} (C : Cx p s m args meth c D k "PromotionTillModel" b_Model_receipt 5 (some .int) A) (N : Nat) (post : Int32 → ((St)) → Prop) (K_38 : Int32 → Int32 → Int32 → (St) → Prop) (hK_38 : ∀ (x1 : Int32) (x2 : Int32) (y0 : Int32) (μ : (St)) (H : Heap) (locs : List Loc) (ls : Array Slot), va_P D CL (wModel k g μ) H → va_D A (wModel k g μ) → va_S A s.heap H locs → lv_has ls 5 [(0, .ref (g 0)), (1, .int x1), (2, .int x2)] → K_38 x1 x2 y0 μ → W p l e rm_Model_receipt s m args below meth c H locs 0 0 (MQ below (va_Qi post (fun (u : (St)) t => va_P D CL (wModel k g u) t.heap ∧ va_D A (wModel k g u)) A) args s rm_Model_receipt.cells rm_Model_receipt.slots A) (F0 m 38 ls [.int y0, .ref (g 0)])) :
    ∀ (x1 : Int32) (x2 : Int32) (μ : (St)) (H : Heap) (locs : List Loc) (ls : Array Slot), va_P D CL (wModel k g μ) H → va_D A (wModel k g μ) → va_S A s.heap H locs → lv_has ls 5 [(0, .ref (g 0)), (1, .int x1), (2, .int x2)] → wp_Model_receipt_37 N post K_38 x1 x2 μ → W p l e rm_Model_receipt s m args below meth c H locs 0 0 (MQ below (va_Qi post (fun (u : (St)) t => va_P D CL (wModel k g u) t.heap ∧ va_D A (wModel k g u)) A) args s rm_Model_receipt.cells rm_Model_receipt.slots A) (F0 m 37 ls [.ref (g 0)]) := by
  obtain ⟨hx, hb, hr, hlk, hml, hown, hts, hK, hA⟩ := id C
  intro x1 x2 μ H locs ls hP hD hS hl h
  unfold wp_Model_receipt_37 at h
  refine lv_iconst (v := 0) hx hb d_Model_receipt_37 (by decide) ?_
  exact hK_38 x1 x2 0 μ _ _ _ hP hD hS (lv_sub hl [0, 1, 2] rfl) h
set_option maxHeartbeats 4000000 in
set_option maxRecDepth 100000 in
theorem m_Model_receipt {l : Launch} {D : va_G} {k : Nat → ClassId} (N : Nat) (g : Nat → Nat) (μ : St) (x1 : Int32) (x2 : Int32) (post : Int32 → ((St)) → Prop) (h : wp_Model_receipt N  μ x1 x2 post) : Ci l D k y_Model_receipt b_Model_receipt 5 .int rm_Model_receipt [.ref (g 0), .int x1, .int x2] (wModel k g μ) (fun u : (St) => wModel k g u) post := by
  refine Ci.of (by decide) (Nat.le_of_ble_eq_true rfl) ?_
  intro p e s m below meth c A H locs ls C hP hD hS hl
  obtain ⟨hx, hb, hr, hlk, hml, hown, hts, hK, hA⟩ := id C
  replace hl : lv_has ls 5 [(0, .ref (g 0)), (1, .int x1), (2, .int x2)] := hl
  unfold wp_Model_receipt at h
  refine lv_aload_n hx hb d_Model_receipt_0 rfl (lv_at hl 0 rfl) ?_
  refine lv_iload_n hx hb d_Model_receipt_1 rfl (lv_at hl 2 rfl) ?_
  refine lv_iconst (v := 0) hx hb d_Model_receipt_2 (by decide) ?_
  refine lv_iconst (v := 5) hx hb d_Model_receipt_3 (by decide) ?_
  refine none_i C hP hD hS (runS (As := [.int x2, .int 0, .int 5]) (rest := [.ref (g 0)]) C nilP nilD (m_Model_within N   x2 0 5  _ h H.size) kw_991 kw_992 kw_12 kw_993 (hd_Model_within).2 ⟨Nat.le_of_ble_eq_true rfl, Nat.le_of_ble_eq_true rfl⟩ ⟨Nat.le_of_ble_eq_true rfl, Nat.le_of_ble_eq_true rfl⟩ rfl hl.1 (Nat.le_of_ble_eq_true rfl) d_Model_receipt_4) (fun r2 u1 H locs h hP hD hS => ?_)
  try dsimp only at h
  refine lv_if_ne (tgt := 14) hx hb d_Model_receipt_7 (by decide) (fun c3 => ?_) (fun c3 => ?_)
  · replace h := h.1 c3
    refine lv_iload_n hx hb d_Model_receipt_14 rfl (lv_at hl 2 rfl) ?_
    refine lv_iconst (v := 4) hx hb d_Model_receipt_15 (by decide) ?_
    refine lv_icmp_ge (tgt := 37) hx hb d_Model_receipt_16 (by decide) (fun c4 => ?_) (fun c4 => ?_)
    · replace h := h.1 c4
      exact t_Model_receipt_37 C N post (wp_Model_receipt_38 N post) (t_Model_receipt_38 C N post) x1 x2 μ _ _ _ hP hD hS (lv_sub hl [0, 1, 2] rfl) h
    · replace h := h.2 c4
      refine lv_iload_n hx hb d_Model_receipt_19 rfl (lv_at hl 1 rfl) ?_
      refine lv_iconst (v := 0) hx hb d_Model_receipt_20 (by decide) ?_
      refine lv_aload_n hx hb d_Model_receipt_21 rfl (lv_at hl 0 rfl) ?_
      refine va_get (D := D) (ci := 8) (v := .int (μ 10 0)) (C := R_Model) (T := F_Model) (N := 40) hx hb hts in_Model hown hK hP 0 rfl rfl 10 (by decide) (hts _ kw_872) (fun _ h9 => h9) rfl d_Model_receipt_22 ?_
      refine lv_iconst (v := 1) hx hb d_Model_receipt_25 (by decide) ?_
      refine lv_isub hx hb d_Model_receipt_26 ?_
      refine none_i C hP hD hS (runS (As := [.int x1, .int 0, .int ((μ 10 0) - 1)]) (rest := [.ref (g 0)]) C nilP nilD (m_Model_within N   x1 0 ((μ 10 0) - 1)  _ h H.size) kw_991 kw_992 kw_12 kw_993 (hd_Model_within).2 ⟨Nat.le_of_ble_eq_true rfl, Nat.le_of_ble_eq_true rfl⟩ ⟨Nat.le_of_ble_eq_true rfl, Nat.le_of_ble_eq_true rfl⟩ rfl hl.1 (Nat.le_of_ble_eq_true rfl) d_Model_receipt_27) (fun r6 u5 H locs h hP hD hS => ?_)
      try dsimp only at h
      refine lv_if_ne (tgt := 37) hx hb d_Model_receipt_30 (by decide) (fun c7 => ?_) (fun c7 => ?_)
      · replace h := h.1 c7
        exact t_Model_receipt_37 C N post (wp_Model_receipt_38 N post) (t_Model_receipt_38 C N post) x1 x2 μ _ _ _ hP hD hS (lv_sub hl [0, 1, 2] rfl) h
      · replace h := h.2 c7
        refine lv_iconst (v := 2) hx hb d_Model_receipt_33 (by decide) ?_
        refine lv_goto (tgt := 38) hx hb d_Model_receipt_34 (by decide) ?_
        exact t_Model_receipt_38 C N post x1 x2 2 μ _ _ _ hP hD hS (lv_sub hl [0, 1, 2] rfl) h
  · replace h := h.2 c3
    refine lv_iconst (v := 1) hx hb d_Model_receipt_10 (by decide) ?_
    refine lv_goto (tgt := 38) hx hb d_Model_receipt_11 (by decide) ?_
    exact t_Model_receipt_38 C N post x1 x2 1 μ _ _ _ hP hD hS (lv_sub hl [0, 1, 2] rfl) h
set_option maxHeartbeats 4000000 in
set_option maxRecDepth 100000 in
theorem t_Model_line_28 {p : Program} {l : Launch} {e : Env} {s : State} {m : MethodId} {args : Array Value} {below : List Frame} {meth : Method} {c : Code} {A : Nat → Prop} {D : va_G} {k : Nat → ClassId} {g : Nat → Nat} (C : Cx p s m args meth c D k "PromotionTillModel" b_Model_line 5 (some .int) A) (N : Nat) (post : Int32 → ((St)) → Prop) :
    ∀ (x1 : Int32) (x2 : Int32) (x3 : Int32) (y0 : Int32) (μ : (St)) (H : Heap) (locs : List Loc) (ls : Array Slot), va_P D CL (wModel k g μ) H → va_D A (wModel k g μ) → va_S A s.heap H locs → lv_has ls 5 [(0, .ref (g 0)), (1, .int x1), (2, .int x2), (3, .int x3)] → wp_Model_line_28 N post x1 x2 x3 y0 μ → W p l e rm_Model_line s m args below meth c H locs 0 0 (MQ below (va_Qi post (fun (u : (St)) t => va_P D CL (wModel k g u) t.heap ∧ va_D A (wModel k g u)) A) args s rm_Model_line.cells rm_Model_line.slots A) (F0 m 28 ls [.int y0, .ref (g 0)]) := by
  obtain ⟨hx, hb, hr, hlk, hml, hown, hts, hK, hA⟩ := id C
  intro x1 x2 x3 y0 μ H locs ls hP hD hS hl h
  unfold wp_Model_line_28 at h
  refine va_put (D := D) (ci := 8) (v := .int y0) (ty := .int) (C := R_Model) (T := F_Model) (N := 40) hx hb hts in_Model t_Model tt_Model n_Model hown hK hP hD hS 0 rfl rfl 39 (by decide) (hts _ kw_901) (fun _ h9 => h9) rfl (by decide +kernel) rfl rfl (Nat.le_of_ble_eq_true rfl) d_Model_line_28 (fun H locs hP hD hS => ?_)
  obtain ⟨μ7, eμ7⟩ : ∃ z, z = s2 μ 39 0 y0 := ⟨_, rfl⟩
  replace hP : va_P D CL (wModel k g μ7) H := by rw [eμ7]; exact hP
  replace hD : va_D A (wModel k g μ7) := by rw [eμ7]; exact hD
  replace h := h μ7 eμ7
  refine lv_aload_n hx hb d_Model_line_31 rfl (lv_at hl 0 rfl) ?_
  refine va_get (D := D) (ci := 8) (v := .int (μ7 39 0)) (C := R_Model) (T := F_Model) (N := 40) hx hb hts in_Model hown hK hP 0 rfl rfl 39 (by decide) (hts _ kw_901) (fun _ h9 => h9) rfl d_Model_line_32 ?_
  refine lv_if_eq (tgt := 40) hx hb d_Model_line_35 (by decide) (fun c8 => ?_) (fun c8 => ?_)
  · replace h := h.1 c8
    refine lv_bipush (v := 10) hx hb d_Model_line_40 (by decide) ?_
    refine lv_iload_n hx hb d_Model_line_42 rfl (lv_at hl 1 rfl) ?_
    refine lv_imul hx hb d_Model_line_43 ?_
    refine lv_iload_n hx hb d_Model_line_44 rfl (lv_at hl 2 rfl) ?_
    refine lv_iadd hx hb d_Model_line_45 ?_
    refine lv_istore (lv' := [(4, .int ((10 * x1) + x2)), (0, .ref (g 0)), (1, .int x1), (2, .int x2), (3, .int x3)]) hx hb d_Model_line_46 hl (by decide) rfl (fun ls hl => ?_)
    refine lv_iload_n hx hb d_Model_line_48 rfl (lv_at hl 4 rfl) ?_
    refine lv_if_ne (tgt := 62) hx hb d_Model_line_49 (by decide) (fun c9 => ?_) (fun c9 => ?_)
    · replace h := h.1 c9
      refine lv_iload_n hx hb d_Model_line_62 rfl (lv_at hl 4 rfl) ?_
      refine lv_iconst (v := 1) hx hb d_Model_line_63 (by decide) ?_
      refine lv_icmp_ne (tgt := 77) hx hb d_Model_line_64 (by decide) (fun c10 => ?_) (fun c10 => ?_)
      · replace h := h.1 c10
        refine lv_iload_n hx hb d_Model_line_77 rfl (lv_at hl 4 rfl) ?_
        refine lv_iconst (v := 2) hx hb d_Model_line_78 (by decide) ?_
        refine lv_icmp_ne (tgt := 92) hx hb d_Model_line_79 (by decide) (fun c11 => ?_) (fun c11 => ?_)
        · replace h := h.1 c11
          refine lv_aload_n hx hb d_Model_line_92 rfl (lv_at hl 1 rfl) ?_
          refine va_get (D := D) (ci := 8) (v := .ref (g 17)) (C := R_Model) (T := F_Model) (N := 40) hx hb hts in_Model hown hK hP 0 rfl rfl 19 (by decide) (hts _ kw_881) (fun _ h9 => h9) rfl d_Model_line_93 ?_
          refine lv_iload hx hb d_Model_line_96 (lv_at hl 0 rfl) ?_
          obtain ⟨hi12, h⟩ := h
          refine va_zald hx hb hK hP 17 1 rfl rfl hi12 d_Model_line_98 ?_
          refine lv_if_eq (tgt := 106) hx hb d_Model_line_99 (by decide) (fun c13 => ?_) (fun c13 => ?_)
          · replace h := h.1 c13
            refine lv_iconst (v := 1) hx hb d_Model_line_106 (by decide) ?_
            exact ret_i (u := μ7) (wf := (fun u : (St) => wModel k g u)) C hP hD hS (Nat.zero_le _) (Nat.zero_le _) h d_Model_line_107
          · replace h := h.2 c13
            refine lv_iconst (v := 0) hx hb d_Model_line_102 (by decide) ?_
            refine lv_goto (tgt := 107) hx hb d_Model_line_103 (by decide) ?_
            exact ret_i (u := μ7) (wf := (fun u : (St) => wModel k g u)) C hP hD hS (Nat.zero_le _) (Nat.zero_le _) h d_Model_line_107
        · replace h := h.2 c11
          refine lv_aload_n hx hb d_Model_line_82 rfl (lv_at hl 1 rfl) ?_
          refine va_get (D := D) (ci := 8) (v := .ref (g 16)) (C := R_Model) (T := F_Model) (N := 40) hx hb hts in_Model hown hK hP 0 rfl rfl 18 (by decide) (hts _ kw_880) (fun _ h9 => h9) rfl d_Model_line_83 ?_
          refine lv_iload hx hb d_Model_line_86 (lv_at hl 0 rfl) ?_
          obtain ⟨hi14, h⟩ := h
          refine va_iald hx hb hK hP 16 0 rfl rfl hi14 d_Model_line_88 ?_
          refine lv_goto (tgt := 107) hx hb d_Model_line_89 (by decide) ?_
          exact ret_i (u := μ7) (wf := (fun u : (St) => wModel k g u)) C hP hD hS (Nat.zero_le _) (Nat.zero_le _) h d_Model_line_107
      · replace h := h.2 c10
        refine lv_aload_n hx hb d_Model_line_67 rfl (lv_at hl 1 rfl) ?_
        refine va_get (D := D) (ci := 8) (v := .ref (g 15)) (C := R_Model) (T := F_Model) (N := 40) hx hb hts in_Model hown hK hP 0 rfl rfl 17 (by decide) (hts _ kw_879) (fun _ h9 => h9) rfl d_Model_line_68 ?_
        refine lv_iload hx hb d_Model_line_71 (lv_at hl 0 rfl) ?_
        obtain ⟨hi15, h⟩ := h
        refine va_iald hx hb hK hP 15 0 rfl rfl hi15 d_Model_line_73 ?_
        refine lv_goto (tgt := 107) hx hb d_Model_line_74 (by decide) ?_
        exact ret_i (u := μ7) (wf := (fun u : (St) => wModel k g u)) C hP hD hS (Nat.zero_le _) (Nat.zero_le _) h d_Model_line_107
    · replace h := h.2 c9
      refine lv_aload_n hx hb d_Model_line_52 rfl (lv_at hl 1 rfl) ?_
      refine va_get (D := D) (ci := 8) (v := .ref (g 13)) (C := R_Model) (T := F_Model) (N := 40) hx hb hts in_Model hown hK hP 0 rfl rfl 15 (by decide) (hts _ kw_877) (fun _ h9 => h9) rfl d_Model_line_53 ?_
      refine lv_iload hx hb d_Model_line_56 (lv_at hl 0 rfl) ?_
      obtain ⟨hi16, h⟩ := h
      refine va_iald hx hb hK hP 13 0 rfl rfl hi16 d_Model_line_58 ?_
      refine lv_goto (tgt := 107) hx hb d_Model_line_59 (by decide) ?_
      exact ret_i (u := μ7) (wf := (fun u : (St) => wModel k g u)) C hP hD hS (Nat.zero_le _) (Nat.zero_le _) h d_Model_line_107
  · replace h := h.2 c8
    refine lv_iconst (v := 0) hx hb d_Model_line_38 (by decide) ?_
    exact ret_i (u := μ7) (wf := (fun u : (St) => wModel k g u)) C hP hD hS (Nat.zero_le _) (Nat.zero_le _) h d_Model_line_39
set_option maxHeartbeats 4000000 in
set_option maxRecDepth 100000 in
theorem m_Model_line {l : Launch} {D : va_G} {k : Nat → ClassId} (N : Nat) (g : Nat → Nat) (μ : St) (x1 : Int32) (x2 : Int32) (x3 : Int32) (post : Int32 → ((St)) → Prop) (h : wp_Model_line N  μ x1 x2 x3 post) : Ci l D k y_Model_line b_Model_line 5 .int rm_Model_line [.ref (g 0), .int x1, .int x2, .int x3] (wModel k g μ) (fun u : (St) => wModel k g u) post := by
  refine Ci.of (by decide) (Nat.le_of_ble_eq_true rfl) ?_
  intro p e s m below meth c A H locs ls C hP hD hS hl
  obtain ⟨hx, hb, hr, hlk, hml, hown, hts, hK, hA⟩ := id C
  replace hl : lv_has ls 5 [(0, .ref (g 0)), (1, .int x1), (2, .int x2), (3, .int x3)] := hl
  unfold wp_Model_line at h
  refine lv_aload_n hx hb d_Model_line_0 rfl (lv_at hl 0 rfl) ?_
  refine lv_aload_n hx hb d_Model_line_1 rfl (lv_at hl 0 rfl) ?_
  refine lv_iload_n hx hb d_Model_line_2 rfl (lv_at hl 1 rfl) ?_
  refine lv_iload_n hx hb d_Model_line_3 rfl (lv_at hl 2 rfl) ?_
  refine same_i C hP hD hS (runV (As := [.int x1, .int x2]) (rest := [.ref (g 0)]) C hP hD (m_Model_isLine N g μ x1 x2  _ h H.size) kw_1139 kw_1141 kp_49 kw_12 kw_1142 hd_Model_isLine ⟨Nat.le_of_ble_eq_true rfl, Nat.le_of_ble_eq_true rfl⟩ ⟨Nat.le_of_ble_eq_true rfl, Nat.le_of_ble_eq_true rfl⟩ 0 rfl rfl rfl rfl hl.1 (Nat.le_of_ble_eq_true rfl) d_Model_line_4) (fun r2 u1 H locs h hP hD hS => ?_)
  replace hP : va_P D CL (wModel k g μ) H := hP
  replace hD : va_D A (wModel k g μ) := hD
  try dsimp only at h
  refine lv_if_ne (tgt := 14) hx hb d_Model_line_7 (by decide) (fun c3 => ?_) (fun c3 => ?_)
  · replace h := h.1 c3
    refine lv_iload_n hx hb d_Model_line_14 rfl (lv_at hl 3 rfl) ?_
    refine lv_iconst (v := 0) hx hb d_Model_line_15 (by decide) ?_
    refine lv_iconst (v := 3) hx hb d_Model_line_16 (by decide) ?_
    refine none_i C hP hD hS (runS (As := [.int x3, .int 0, .int 3]) (rest := [.ref (g 0)]) C nilP nilD (m_Model_within N   x3 0 3  _ h H.size) kw_991 kw_992 kw_12 kw_993 (hd_Model_within).2 ⟨Nat.le_of_ble_eq_true rfl, Nat.le_of_ble_eq_true rfl⟩ ⟨Nat.le_of_ble_eq_true rfl, Nat.le_of_ble_eq_true rfl⟩ rfl hl.1 (Nat.le_of_ble_eq_true rfl) d_Model_line_17) (fun r5 u4 H locs h hP hD hS => ?_)
    try dsimp only at h
    refine lv_if_ne (tgt := 27) hx hb d_Model_line_20 (by decide) (fun c6 => ?_) (fun c6 => ?_)
    · replace h := h.1 c6
      refine lv_iconst (v := 0) hx hb d_Model_line_27 (by decide) ?_
      exact t_Model_line_28 C N post x1 x2 x3 0 μ _ _ _ hP hD hS (lv_sub hl [0, 1, 2, 3] rfl) h
    · replace h := h.2 c6
      refine lv_iconst (v := 2) hx hb d_Model_line_23 (by decide) ?_
      refine lv_goto (tgt := 28) hx hb d_Model_line_24 (by decide) ?_
      exact t_Model_line_28 C N post x1 x2 x3 2 μ _ _ _ hP hD hS (lv_sub hl [0, 1, 2, 3] rfl) h
  · replace h := h.2 c3
    refine lv_iconst (v := 1) hx hb d_Model_line_10 (by decide) ?_
    refine lv_goto (tgt := 28) hx hb d_Model_line_11 (by decide) ?_
    exact t_Model_line_28 C N post x1 x2 x3 1 μ _ _ _ hP hD hS (lv_sub hl [0, 1, 2, 3] rfl) h
