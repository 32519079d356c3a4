/-! the class: public methods without receipts: contracts (by program) -/
set_option maxHeartbeats 4000000 in
set_option maxRecDepth 100000 in
theorem t_Till_within_14 {p : Program} {l : Launch} {e : Env} {s : State} {m : MethodId} {args : Array Value} {below : List Frame} {meth : Method} {c : Code} {A : Nat → Prop} {D : va_G} {k : Nat → ClassId}  (C : Cx p s m args meth c D k "PromotionTill" b_Till_within 3 (some .boolean) A) (N : Nat) (post : Int32 → (Unit) → Prop) :
    ∀  (H : Heap) (locs : List Loc) (ls : Array Slot), va_P D CL (([] : va_W)) H → va_D A (([] : va_W)) → va_S A s.heap H locs → lv_has ls 3 [] → wp_Till_within_14 N post  → W p l e rm_Till_within s m args below meth c H locs 0 0 (MQ below (va_Qi post (fun (u : Unit) t => va_P D CL (([] : va_W)) t.heap ∧ va_D A (([] : va_W))) A) args s rm_Till_within.cells rm_Till_within.slots A) (F0 m 14 ls []) := by
  obtain ⟨hx, hb, hr, hlk, hml, hown, hts, hK, hA⟩ := id C
  intro  H locs ls hP hD hS hl h
  unfold wp_Till_within_14 at h
  refine lv_iconst (v := 0) hx hb d_Till_within_14 (by decide) ?_
  exact ret_z (u := ()) (wf := (fun u : Unit => ([] : va_W))) C rfl hP hD hS (Nat.zero_le _) (Nat.zero_le _) h d_Till_within_15
set_option maxHeartbeats 4000000 in
set_option maxRecDepth 100000 in
theorem m_Till_within {l : Launch} {D : va_G} {k : Nat → ClassId} (N : Nat) (x0 : Int32) (x1 : Int32) (x2 : Int32) (post : Int32 → (Unit) → Prop) (h : wp_Till_within N   x0 x1 x2 post) : Ci l D k y_Till_within b_Till_within 3 .boolean rm_Till_within [.int x0, .int x1, .int x2] (([] : va_W)) (fun u : Unit => ([] : va_W)) post := by
  refine Ci.of (by decide) (Nat.le_of_ble_eq_true rfl) ?_
  intro p e s m below meth c A H locs ls C hP hD hS hl
  obtain ⟨hx, hb, hr, hlk, hml, hown, hts, hK, hA⟩ := id C
  replace hl : lv_has ls 3 [(0, .int x0), (1, .int x1), (2, .int x2)] := hl
  unfold wp_Till_within at h
  refine lv_iload_n hx hb d_Till_within_0 rfl (lv_at hl 0 rfl) ?_
  refine lv_iload_n hx hb d_Till_within_1 rfl (lv_at hl 1 rfl) ?_
  refine lv_icmp_lt (tgt := 14) hx hb d_Till_within_2 (by decide) (fun c1 => ?_) (fun c1 => ?_)
  · replace h := h.1 c1
    exact t_Till_within_14 C N post  _ _ _ hP hD hS (lv_sub hl [] rfl) h
  · replace h := h.2 c1
    refine lv_iload_n hx hb d_Till_within_5 rfl (lv_at hl 0 rfl) ?_
    refine lv_iload_n hx hb d_Till_within_6 rfl (lv_at hl 2 rfl) ?_
    refine lv_icmp_gt (tgt := 14) hx hb d_Till_within_7 (by decide) (fun c2 => ?_) (fun c2 => ?_)
    · replace h := h.1 c2
      exact t_Till_within_14 C N post  _ _ _ hP hD hS (lv_sub hl [] rfl) h
    · replace h := h.2 c2
      refine lv_iconst (v := 1) hx hb d_Till_within_10 (by decide) ?_
      refine lv_goto (tgt := 15) hx hb d_Till_within_11 (by decide) ?_
      exact ret_z (u := ()) (wf := (fun u : Unit => ([] : va_W))) C rfl hP hD hS (Nat.zero_le _) (Nat.zero_le _) h d_Till_within_15
set_option maxHeartbeats 4000000 in
set_option maxRecDepth 100000 in
theorem m_Till_requireArgument {l : Launch} {D : va_G} {k : Nat → ClassId} (hlt : l.stackTraces = false) (N : Nat) (x0 : Int32) (post : (Unit) → Prop) (xp : String → (Unit) → Prop) (h : wp_Till_requireArgument N   x0 post xp) : CX l D k y_Till_requireArgument b_Till_requireArgument 1 none rm_Till_requireArgument [.int x0] (([] : va_W)) (fun u : Unit => ([] : va_W)) (fun v (u : Unit) => v = none ∧ post u) xp := by
  refine CX.of (by decide) (Nat.le_of_ble_eq_true rfl) ?_
  intro p e s m below meth c A H locs ls C hX hcx hP hD hS hl
  obtain ⟨hx, hb, hr, hlk, hml, hown, hts, hK, hA⟩ := id C
  obtain ⟨t9, hZ9, hT9, hE9⟩ := id hX.2
  replace hl : lv_has ls 1 [(0, .int x0)] := hl
  unfold wp_Till_requireArgument at h
  refine lv_iload_n hx hb d_Till_requireArgument_0 rfl (lv_at hl 0 rfl) ?_
  refine lv_if_ne (tgt := 14) hx hb d_Till_requireArgument_1 (by decide) (fun c1 => ?_) (fun c1 => ?_)
  · replace h := h.1 c1
    exact retX_v (u := ()) (wf := (fun u : Unit => ([] : va_W))) C hP hD hS (Nat.le_of_ble_eq_true rfl) (Nat.le_of_ble_eq_true rfl) ⟨rfl, h⟩ d_Till_requireArgument_14
  · replace h := h.2 c1
    exact thr (u := ()) (wf := (fun u : Unit => ([] : va_W))) (text := "an argument is not as it must be") C hX hlt hcx xOk_ia (by decide +kernel) kw_282 kw_16 (by decide +kernel) hP hD hS hl.1 d_Till_requireArgument_4 d_Till_requireArgument_7 d_Till_requireArgument_8 d_Till_requireArgument_10 d_Till_requireArgument_13 (Nat.le_of_ble_eq_true rfl) (Nat.le_of_ble_eq_true rfl) (Nat.le_of_ble_eq_true rfl) (Nat.le_of_ble_eq_true rfl) (Nat.le_refl _) (Nat.le_refl _) h
set_option maxHeartbeats 4000000 in
set_option maxRecDepth 100000 in
theorem m_Till_requireArticle {l : Launch} {D : va_G} {k : Nat → ClassId} (hlt : l.stackTraces = false) (N : Nat) (x0 : Int32) (post : (Unit) → Prop) (xp : String → (Unit) → Prop) (h : wp_Till_requireArticle N   x0 post xp) : CX l D k y_Till_requireArticle b_Till_requireArticle 1 none rm_Till_requireArticle [.int x0] (([] : va_W)) (fun u : Unit => ([] : va_W)) (fun v (u : Unit) => v = none ∧ post u) xp := by
  refine CX.of (by decide) (Nat.le_of_ble_eq_true rfl) ?_
  intro p e s m below meth c A H locs ls C hX hcx hP hD hS hl
  obtain ⟨hx, hb, hr, hlk, hml, hown, hts, hK, hA⟩ := id C
  obtain ⟨t9, hZ9, hT9, hE9⟩ := id hX.2
  replace hl : lv_has ls 1 [(0, .int x0)] := hl
  unfold wp_Till_requireArticle at h
  refine lv_iload_n hx hb d_Till_requireArticle_0 rfl (lv_at hl 0 rfl) ?_
  refine lv_iconst (v := 0) hx hb d_Till_requireArticle_1 (by decide) ?_
  refine lv_bipush (v := 11) hx hb d_Till_requireArticle_2 (by decide) ?_
  refine none_i C hP hD hS (runS (As := [.int x0, .int 0, .int 11]) (rest := []) C hP hD (m_Till_within N   x0 0 11  _ h H.size) kw_276 kw_277 kw_1 kw_278 (hd_Till_within).2 ⟨Nat.le_of_ble_eq_true rfl, Nat.le_of_ble_eq_true rfl⟩ ⟨Nat.le_of_ble_eq_true rfl, Nat.le_of_ble_eq_true rfl⟩ rfl hl.1 (Nat.le_of_ble_eq_true rfl) d_Till_requireArticle_4) (fun r2 u1 H locs h hP hD hS => ?_)
  try dsimp only at h
  refine callXS (As := [.int r2]) (rest := []) C hX hS (Jn.none (S := Unit) hP hD hS hA) (m_Till_requireArgument hlt N   r2  _ _ h) kw_279 kw_280 kw_1 kw_281 (hd_Till_requireArgument).2 rfl ⟨Nat.le_of_ble_eq_true rfl, Nat.le_of_ble_eq_true rfl⟩ ⟨Nat.le_of_ble_eq_true rfl, Nat.le_of_ble_eq_true rfl⟩ hl.1 (Nat.le_of_ble_eq_true rfl) d_Till_requireArticle_7 (fun v9 u3 H locs h hP hD hS => ?_) (fun q9 E9 u9 ce9 H locs h hP hD hS hce9 hcv9 hcl9 => ?_)
  rotate_left
  · exact outX (u := ()) (wf := (fun u : Unit => ([] : va_W))) C hcx hP hD hS hce9 hcv9 hcl9 (Nat.le_of_ble_eq_true rfl) (Nat.le_of_ble_eq_true rfl) h
  obtain ⟨rfl, h⟩ := h
  refine W.eq (g2 := F0 m 10 ls []) rfl ?_
  replace hP : va_P D CL (([] : va_W)) H := hP
  replace hD : va_D A (([] : va_W)) := hD
  try dsimp only at h
  exact retX_v (u := ()) (wf := (fun u : Unit => ([] : va_W))) C hP hD hS (Nat.le_of_ble_eq_true rfl) (Nat.le_of_ble_eq_true rfl) ⟨rfl, h⟩ d_Till_requireArticle_10
set_option maxHeartbeats 4000000 in
set_option maxRecDepth 100000 in
theorem m_Till_requireOffer {l : Launch} {D : va_G} {k : Nat → ClassId} (hlt : l.stackTraces = false) (N : Nat) (x0 : Int32) (post : (Unit) → Prop) (xp : String → (Unit) → Prop) (h : wp_Till_requireOffer N   x0 post xp) : CX l D k y_Till_requireOffer b_Till_requireOffer 1 none rm_Till_requireOffer [.int x0] (([] : va_W)) (fun u : Unit => ([] : va_W)) (fun v (u : Unit) => v = none ∧ post u) xp := by
  refine CX.of (by decide) (Nat.le_of_ble_eq_true rfl) ?_
  intro p e s m below meth c A H locs ls C hX hcx hP hD hS hl
  obtain ⟨hx, hb, hr, hlk, hml, hown, hts, hK, hA⟩ := id C
  obtain ⟨t9, hZ9, hT9, hE9⟩ := id hX.2
  replace hl : lv_has ls 1 [(0, .int x0)] := hl
  unfold wp_Till_requireOffer at h
  refine lv_iload_n hx hb d_Till_requireOffer_0 rfl (lv_at hl 0 rfl) ?_
  refine lv_iconst (v := 0) hx hb d_Till_requireOffer_1 (by decide) ?_
  refine lv_iconst (v := 5) hx hb d_Till_requireOffer_2 (by decide) ?_
  refine none_i C hP hD hS (runS (As := [.int x0, .int 0, .int 5]) (rest := []) C hP hD (m_Till_within N   x0 0 5  _ h H.size) kw_276 kw_277 kw_1 kw_278 (hd_Till_within).2 ⟨Nat.le_of_ble_eq_true rfl, Nat.le_of_ble_eq_true rfl⟩ ⟨Nat.le_of_ble_eq_true rfl, Nat.le_of_ble_eq_true rfl⟩ rfl hl.1 (Nat.le_of_ble_eq_true rfl) d_Till_requireOffer_3) (fun r2 u1 H locs h hP hD hS => ?_)
  try dsimp only at h
  refine callXS (As := [.int r2]) (rest := []) C hX hS (Jn.none (S := Unit) hP hD hS hA) (m_Till_requireArgument hlt N   r2  _ _ h) kw_279 kw_280 kw_1 kw_281 (hd_Till_requireArgument).2 rfl ⟨Nat.le_of_ble_eq_true rfl, Nat.le_of_ble_eq_true rfl⟩ ⟨Nat.le_of_ble_eq_true rfl, Nat.le_of_ble_eq_true rfl⟩ hl.1 (Nat.le_of_ble_eq_true rfl) d_Till_requireOffer_6 (fun v9 u3 H locs h hP hD hS => ?_) (fun q9 E9 u9 ce9 H locs h hP hD hS hce9 hcv9 hcl9 => ?_)
  rotate_left
  · exact outX (u := ()) (wf := (fun u : Unit => ([] : va_W))) C hcx hP hD hS hce9 hcv9 hcl9 (Nat.le_of_ble_eq_true rfl) (Nat.le_of_ble_eq_true rfl) h
  obtain ⟨rfl, h⟩ := h
  refine W.eq (g2 := F0 m 9 ls []) rfl ?_
  replace hP : va_P D CL (([] : va_W)) H := hP
  replace hD : va_D A (([] : va_W)) := hD
  try dsimp only at h
  exact retX_v (u := ()) (wf := (fun u : Unit => ([] : va_W))) C hP hD hS (Nat.le_of_ble_eq_true rfl) (Nat.le_of_ble_eq_true rfl) ⟨rfl, h⟩ d_Till_requireOffer_9
set_option maxHeartbeats 4000000 in
set_option maxRecDepth 100000 in
theorem m_Till_requireIndex {l : Launch} {D : va_G} {k : Nat → ClassId} (hlt : l.stackTraces = false) (N : Nat) (x0 : Int32) (x1 : Int32) (post : (Unit) → Prop) (xp : String → (Unit) → Prop) (h : wp_Till_requireIndex N   x0 x1 post xp) : CX l D k y_Till_requireIndex b_Till_requireIndex 2 none rm_Till_requireIndex [.int x0, .int x1] (([] : va_W)) (fun u : Unit => ([] : va_W)) (fun v (u : Unit) => v = none ∧ post u) xp := by
  refine CX.of (by decide) (Nat.le_of_ble_eq_true rfl) ?_
  intro p e s m below meth c A H locs ls C hX hcx hP hD hS hl
  obtain ⟨hx, hb, hr, hlk, hml, hown, hts, hK, hA⟩ := id C
  obtain ⟨t9, hZ9, hT9, hE9⟩ := id hX.2
  replace hl : lv_has ls 2 [(0, .int x0), (1, .int x1)] := hl
  unfold wp_Till_requireIndex at h
  refine lv_iload_n hx hb d_Till_requireIndex_0 rfl (lv_at hl 0 rfl) ?_
  refine lv_iconst (v := 0) hx hb d_Till_requireIndex_1 (by decide) ?_
  refine lv_iload_n hx hb d_Till_requireIndex_2 rfl (lv_at hl 1 rfl) ?_
  refine lv_iconst (v := 1) hx hb d_Till_requireIndex_3 (by decide) ?_
  refine lv_isub hx hb d_Till_requireIndex_4 ?_
  refine none_i C hP hD hS (runS (As := [.int x0, .int 0, .int (x1 - 1)]) (rest := []) C hP hD (m_Till_within N   x0 0 (x1 - 1)  _ h H.size) kw_276 kw_277 kw_1 kw_278 (hd_Till_within).2 ⟨Nat.le_of_ble_eq_true rfl, Nat.le_of_ble_eq_true rfl⟩ ⟨Nat.le_of_ble_eq_true rfl, Nat.le_of_ble_eq_true rfl⟩ rfl hl.1 (Nat.le_of_ble_eq_true rfl) d_Till_requireIndex_5) (fun r2 u1 H locs h hP hD hS => ?_)
  try dsimp only at h
  refine lv_if_ne (tgt := 21) hx hb d_Till_requireIndex_8 (by decide) (fun c3 => ?_) (fun c3 => ?_)
  · replace h := h.1 c3
    exact retX_v (u := ()) (wf := (fun u : Unit => ([] : va_W))) C hP hD hS (Nat.le_of_ble_eq_true rfl) (Nat.le_of_ble_eq_true rfl) ⟨rfl, h⟩ d_Till_requireIndex_21
  · replace h := h.2 c3
    exact thr (u := ()) (wf := (fun u : Unit => ([] : va_W))) (text := "there is none such") C hX hlt hcx xOk_io (by decide +kernel) kw_471 kw_19 (by decide +kernel) hP hD hS hl.1 d_Till_requireIndex_11 d_Till_requireIndex_14 d_Till_requireIndex_15 d_Till_requireIndex_17 d_Till_requireIndex_20 (Nat.le_of_ble_eq_true rfl) (Nat.le_of_ble_eq_true rfl) (Nat.le_of_ble_eq_true rfl) (Nat.le_of_ble_eq_true rfl) (Nat.le_refl _) (Nat.le_refl _) h
set_option maxHeartbeats 4000000 in
set_option maxRecDepth 100000 in
theorem m_Till_requireEmptyBasket {l : Launch} {D : va_G} {k : Nat → ClassId} (hlt : l.stackTraces = false) (N : Nat) (gX : Nat → Nat) (gB : Nat → Nat) (x_tariff : Nat) (x_keptUnits : Nat) (x_planner : Nat) (x_plan : Nat) (x_receipts : Nat) (θ : St) (β : St) (post : (Unit) → Prop) (xp : String → (Unit) → Prop) (h : wp_Till_requireEmptyBasket N  θ β  post xp) : CX l D k y_Till_requireEmptyBasket b_Till_requireEmptyBasket 1 none rm_Till_requireEmptyBasket [.ref (gX 0)] (wTill k gX θ x_tariff (gB 0) x_keptUnits x_planner x_plan x_receipts ++ (wBasket k gB β)) (fun u : Unit => wTill k gX θ x_tariff (gB 0) x_keptUnits x_planner x_plan x_receipts ++ (wBasket k gB β)) (fun v (u : Unit) => v = none ∧ post u) xp := by
  refine CX.of (by decide) (Nat.le_of_ble_eq_true rfl) ?_
  intro p e s m below meth c A H locs ls C hX hcx hP hD hS hl
  obtain ⟨hx, hb, hr, hlk, hml, hown, hts, hK, hA⟩ := id C
  obtain ⟨t9, hZ9, hT9, hE9⟩ := id hX.2
  replace hl : lv_has ls 1 [(0, .ref (gX 0))] := hl
  unfold wp_Till_requireEmptyBasket at h
  refine lv_aload_n hx hb d_Till_requireEmptyBasket_0 rfl (lv_at hl 0 rfl) ?_
  refine va_get (D := D) (ci := 7) (v := .ref (gB 0)) (C := R_Till) (T := F_Till) (N := 9) hx hb hts in_Till hown hK hP 0 rfl rfl 2 (by decide) (hts _ kw_238) (fun _ h9 => h9) rfl d_Till_requireEmptyBasket_1 ?_
  refine va_get (D := D) (ci := 0) (v := .int (β 1 0)) (C := R_Basket) (T := F_Basket) (N := 2) hx hb hts in_Basket hown hK hP 2 rfl rfl 1 (by decide) (hts _ kw_109) (fun _ h9 => h9) rfl d_Till_requireEmptyBasket_4 ?_
  refine lv_if_eq (tgt := 20) hx hb d_Till_requireEmptyBasket_7 (by decide) (fun c1 => ?_) (fun c1 => ?_)
  · replace h := h.1 c1
    exact retX_v (u := ()) (wf := (fun u : Unit => wTill k gX θ x_tariff (gB 0) x_keptUnits x_planner x_plan x_receipts ++ (wBasket k gB β))) C hP hD hS (Nat.le_of_ble_eq_true rfl) (Nat.le_of_ble_eq_true rfl) ⟨rfl, h⟩ d_Till_requireEmptyBasket_20
  · replace h := h.2 c1
    exact thr (u := ()) (wf := (fun u : Unit => wTill k gX θ x_tariff (gB 0) x_keptUnits x_planner x_plan x_receipts ++ (wBasket k gB β))) (text := "the basket is not empty") C hX hlt hcx xOk_is (by decide +kernel) kw_358 kw_17 (by decide +kernel) hP hD hS hl.1 d_Till_requireEmptyBasket_10 d_Till_requireEmptyBasket_13 d_Till_requireEmptyBasket_14 d_Till_requireEmptyBasket_16 d_Till_requireEmptyBasket_19 (Nat.le_of_ble_eq_true rfl) (Nat.le_of_ble_eq_true rfl) (Nat.le_of_ble_eq_true rfl) (Nat.le_of_ble_eq_true rfl) (Nat.le_refl _) (Nat.le_refl _) h
set_option maxHeartbeats 4000000 in
set_option maxRecDepth 100000 in
theorem m_Till_article {l : Launch} {D : va_G} {k : Nat → ClassId} (hlt : l.stackTraces = false) (N : Nat) (gX : Nat → Nat) (gB : Nat → Nat) (gT : Nat → Nat) (x_keptUnits : Nat) (x_planner : Nat) (x_plan : Nat) (x_receipts : Nat) (f : Nat → Option Nat) (θ : St) (β : St) (τ : St) (x1 : Int32) (x2 : Int32) (x3 : Int32) (post : ((St) × (St)) → Prop) (xp : String → ((St) × (St)) → Prop) (h : wp_Till_article N  θ β τ x1 x2 x3 post xp) : CX l D k y_Till_article b_Till_article 4 none rm_Till_article [.ref (gX 0), .int x1, .int x2, .int x3] (wTill k gX θ (gT 0) (gB 0) x_keptUnits x_planner x_plan x_receipts ++ (wBasket k gB β ++ (wTariff k gT τ f))) (fun u : (St) × (St) => wTill k gX u.1 (gT 0) (gB 0) x_keptUnits x_planner x_plan x_receipts ++ (wBasket k gB β ++ (wTariff k gT u.2 f))) (fun v (u : (St) × (St)) => v = none ∧ post u) xp := by
  refine CX.of (by decide) (Nat.le_of_ble_eq_true rfl) ?_
  intro p e s m below meth c A H locs ls C hX hcx hP hD hS hl
  obtain ⟨hx, hb, hr, hlk, hml, hown, hts, hK, hA⟩ := id C
  obtain ⟨t9, hZ9, hT9, hE9⟩ := id hX.2
  replace hl : lv_has ls 4 [(0, .ref (gX 0)), (1, .int x1), (2, .int x2), (3, .int x3)] := hl
  unfold wp_Till_article at h
  refine lv_iload_n hx hb d_Till_article_0 rfl (lv_at hl 1 rfl) ?_
  refine callXS (As := [.int x1]) (rest := []) C hX hS (Jn.none (S := Unit) hP hD hS hA) (m_Till_requireArticle hlt N   x1  _ _ h) kw_273 kw_274 kw_1 kw_275 (hd_Till_requireArticle).2 rfl ⟨Nat.le_of_ble_eq_true rfl, Nat.le_of_ble_eq_true rfl⟩ ⟨Nat.le_of_ble_eq_true rfl, Nat.le_of_ble_eq_true rfl⟩ hl.1 (Nat.le_of_ble_eq_true rfl) d_Till_article_1 (fun v9 u1 H locs h hP hD hS => ?_) (fun q9 E9 u9 ce9 H locs h hP hD hS hce9 hcv9 hcl9 => ?_)
  rotate_left
  · exact outX (u := (θ, τ)) (wf := (fun u : (St) × (St) => wTill k gX u.1 (gT 0) (gB 0) x_keptUnits x_planner x_plan x_receipts ++ (wBasket k gB β ++ (wTariff k gT u.2 f)))) C hcx hP hD hS hce9 hcv9 hcl9 (Nat.le_of_ble_eq_true rfl) (Nat.le_of_ble_eq_true rfl) h
  obtain ⟨rfl, h⟩ := h
  refine W.eq (g2 := F0 m 4 ls []) rfl ?_
  replace hP : va_P D CL (wTill k gX θ (gT 0) (gB 0) x_keptUnits x_planner x_plan x_receipts ++ (wBasket k gB β ++ (wTariff k gT τ f))) H := hP
  replace hD : va_D A (wTill k gX θ (gT 0) (gB 0) x_keptUnits x_planner x_plan x_receipts ++ (wBasket k gB β ++ (wTariff k gT τ f))) := hD
  try dsimp only at h
  refine lv_iload_n hx hb d_Till_article_4 rfl (lv_at hl 2 rfl) ?_
  refine lv_iconst (v := 1) hx hb d_Till_article_5 (by decide) ?_
  refine lv_ldc (v := 100000) hx hb hown (hts _ kw_351) d_Till_article_6 ?_
  refine none_i C hP hD hS (runS (As := [.int x2, .int 1, .int 100000]) (rest := []) C nilP nilD (m_Till_within N   x2 1 100000  _ h H.size) kw_276 kw_277 kw_1 kw_278 (hd_Till_within).2 ⟨Nat.le_of_ble_eq_true rfl, Nat.le_of_ble_eq_true rfl⟩ ⟨Nat.le_of_ble_eq_true rfl, Nat.le_of_ble_eq_true rfl⟩ rfl hl.1 (Nat.le_of_ble_eq_true rfl) d_Till_article_8) (fun r4 u3 H locs h hP hD hS => ?_)
  try dsimp only at h
  refine callXS (As := [.int r4]) (rest := []) C hX hS (Jn.none (S := Unit) hP hD hS hA) (m_Till_requireArgument hlt N   r4  _ _ h) kw_279 kw_280 kw_1 kw_281 (hd_Till_requireArgument).2 rfl ⟨Nat.le_of_ble_eq_true rfl, Nat.le_of_ble_eq_true rfl⟩ ⟨Nat.le_of_ble_eq_true rfl, Nat.le_of_ble_eq_true rfl⟩ hl.1 (Nat.le_of_ble_eq_true rfl) d_Till_article_11 (fun v9 u5 H locs h hP hD hS => ?_) (fun q9 E9 u9 ce9 H locs h hP hD hS hce9 hcv9 hcl9 => ?_)
  rotate_left
  · exact outX (u := (θ, τ)) (wf := (fun u : (St) × (St) => wTill k gX u.1 (gT 0) (gB 0) x_keptUnits x_planner x_plan x_receipts ++ (wBasket k gB β ++ (wTariff k gT u.2 f)))) C hcx hP hD hS hce9 hcv9 hcl9 (Nat.le_of_ble_eq_true rfl) (Nat.le_of_ble_eq_true rfl) h
  obtain ⟨rfl, h⟩ := h
  refine W.eq (g2 := F0 m 14 ls []) rfl ?_
  replace hP : va_P D CL (wTill k gX θ (gT 0) (gB 0) x_keptUnits x_planner x_plan x_receipts ++ (wBasket k gB β ++ (wTariff k gT τ f))) H := hP
  replace hD : va_D A (wTill k gX θ (gT 0) (gB 0) x_keptUnits x_planner x_plan x_receipts ++ (wBasket k gB β ++ (wTariff k gT τ f))) := hD
  try dsimp only at h
  refine lv_iload_n hx hb d_Till_article_14 rfl (lv_at hl 3 rfl) ?_
  refine lv_iconst (v := 0) hx hb d_Till_article_15 (by decide) ?_
  refine va_gets hx hb hZ9 hS hown (hts _ kw_352) (fun _ h => h) d_Till_article_16 ?_
  refine va_tlen (v := 4) hx hb hT9 hS rfl d_Till_article_19 ?_
  refine lv_iconst (v := 1) hx hb d_Till_article_20 (by decide) ?_
  refine lv_isub hx hb d_Till_article_21 ?_
  refine none_i C hP hD hS (runS (As := [.int x3, .int 0, .int (4 - 1)]) (rest := []) C nilP nilD (m_Till_within N   x3 0 (4 - 1)  _ h H.size) kw_276 kw_277 kw_1 kw_278 (hd_Till_within).2 ⟨Nat.le_of_ble_eq_true rfl, Nat.le_of_ble_eq_true rfl⟩ ⟨Nat.le_of_ble_eq_true rfl, Nat.le_of_ble_eq_true rfl⟩ rfl hl.1 (Nat.le_of_ble_eq_true rfl) d_Till_article_22) (fun r8 u7 H locs h hP hD hS => ?_)
  try dsimp only at h
  refine callXS (As := [.int r8]) (rest := []) C hX hS (Jn.none (S := Unit) hP hD hS hA) (m_Till_requireArgument hlt N   r8  _ _ h) kw_279 kw_280 kw_1 kw_281 (hd_Till_requireArgument).2 rfl ⟨Nat.le_of_ble_eq_true rfl, Nat.le_of_ble_eq_true rfl⟩ ⟨Nat.le_of_ble_eq_true rfl, Nat.le_of_ble_eq_true rfl⟩ hl.1 (Nat.le_of_ble_eq_true rfl) d_Till_article_25 (fun v9 u9 H locs h hP hD hS => ?_) (fun q9 E9 u9 ce9 H locs h hP hD hS hce9 hcv9 hcl9 => ?_)
  rotate_left
  · exact outX (u := (θ, τ)) (wf := (fun u : (St) × (St) => wTill k gX u.1 (gT 0) (gB 0) x_keptUnits x_planner x_plan x_receipts ++ (wBasket k gB β ++ (wTariff k gT u.2 f)))) C hcx hP hD hS hce9 hcv9 hcl9 (Nat.le_of_ble_eq_true rfl) (Nat.le_of_ble_eq_true rfl) h
  obtain ⟨rfl, h⟩ := h
  refine W.eq (g2 := F0 m 28 ls []) rfl ?_
  replace hP : va_P D CL (wTill k gX θ (gT 0) (gB 0) x_keptUnits x_planner x_plan x_receipts ++ (wBasket k gB β ++ (wTariff k gT τ f))) H := hP
  replace hD : va_D A (wTill k gX θ (gT 0) (gB 0) x_keptUnits x_planner x_plan x_receipts ++ (wBasket k gB β ++ (wTariff k gT τ f))) := hD
  try dsimp only at h
  refine lv_aload_n hx hb d_Till_article_28 rfl (lv_at hl 0 rfl) ?_
  refine callXV (As := []) (rest := []) C hX hS (Jn.part (wr := [(gT 0, .inr (5, [.ref (gT 1), .ref (gT 2)])), (gT 1, .inl (k 0, 12, .inl (τ 0))), (gT 2, .inl (k 3, 6, .inr (.inr (.inr (.inr f)))))]) (wn := (fun u11 : Unit => wTill k gX θ (gT 0) (gB 0) x_keptUnits x_planner x_plan x_receipts ++ (wBasket k gB β ++ (wTariff k gT τ f)))) hP hD hS hA [0, 1, 2, 3] [4, 5, 6] [3, 4, 5, 6, 0, 1, 2] rfl (by decide) rfl (by decide) (by decide) (fun _ => rfl) (by decide)) (m_Till_requireEmptyBasket hlt N gX gB (gT 0) x_keptUnits x_planner x_plan x_receipts θ β   _ _ h) kw_354 kw_356 kp_1 kw_1 kw_357 hd_Till_requireEmptyBasket 0 rfl rfl rfl rfl ⟨Nat.le_of_ble_eq_true rfl, Nat.le_of_ble_eq_true rfl⟩ ⟨Nat.le_of_ble_eq_true rfl, Nat.le_of_ble_eq_true rfl⟩ hl.1 (Nat.le_of_ble_eq_true rfl) d_Till_article_29 (fun v9 u11 H locs h hP hD hS => ?_) (fun q9 E9 u9 ce9 H locs h hP hD hS hce9 hcv9 hcl9 => ?_)
  rotate_left
  · exact outX (u := (θ, τ)) (wf := (fun u : (St) × (St) => wTill k gX u.1 (gT 0) (gB 0) x_keptUnits x_planner x_plan x_receipts ++ (wBasket k gB β ++ (wTariff k gT u.2 f)))) C hcx hP hD hS hce9 hcv9 hcl9 (Nat.le_of_ble_eq_true rfl) (Nat.le_of_ble_eq_true rfl) h
  obtain ⟨rfl, h⟩ := h
  refine W.eq (g2 := F0 m 32 ls []) rfl ?_
  replace hP : va_P D CL (wTill k gX θ (gT 0) (gB 0) x_keptUnits x_planner x_plan x_receipts ++ (wBasket k gB β ++ (wTariff k gT τ f))) H := hP
  replace hD : va_D A (wTill k gX θ (gT 0) (gB 0) x_keptUnits x_planner x_plan x_receipts ++ (wBasket k gB β ++ (wTariff k gT τ f))) := hD
  try dsimp only at h
  refine lv_aload_n hx hb d_Till_article_32 rfl (lv_at hl 0 rfl) ?_
  refine va_get (D := D) (ci := 7) (v := .ref (gT 0)) (C := R_Till) (T := F_Till) (N := 9) hx hb hts in_Till hown hK hP 0 rfl rfl 0 (by decide) (hts _ kw_236) (fun _ h9 => h9) rfl d_Till_article_33 ?_
  refine va_get (D := D) (ci := 5) (v := .ref (gT 1)) (C := R_Tariff) (T := F_Tariff) (N := 2) hx hb hts in_Tariff hown hK hP 4 rfl rfl 0 (by decide) (hts _ kw_83) (fun _ h9 => h9) rfl d_Till_article_36 ?_
  refine lv_iload_n hx hb d_Till_article_39 rfl (lv_at hl 1 rfl) ?_
  refine lv_iload_n hx hb d_Till_article_40 rfl (lv_at hl 2 rfl) ?_
  obtain ⟨hi13, h⟩ := h
  refine va_iast hx hb hK hP hD hS 5 0 rfl rfl hi13 d_Till_article_41 (fun H locs hP hD hS => ?_)
  obtain ⟨τ14, eτ14⟩ : ∃ z, z = s2 τ 0 (Int32.toNatClampNeg x1) x2 := ⟨_, rfl⟩
  replace hP : va_P D CL (wTill k gX θ (gT 0) (gB 0) x_keptUnits x_planner x_plan x_receipts ++ (wBasket k gB β ++ (wTariff k gT τ14 f))) H := by rw [eτ14]; exact hP
  replace hD : va_D A (wTill k gX θ (gT 0) (gB 0) x_keptUnits x_planner x_plan x_receipts ++ (wBasket k gB β ++ (wTariff k gT τ14 f))) := by rw [eτ14]; exact hD
  replace h := h τ14 eτ14
  refine lv_aload_n hx hb d_Till_article_42 rfl (lv_at hl 0 rfl) ?_
  refine va_get (D := D) (ci := 7) (v := .ref (gX 1)) (C := R_Till) (T := F_Till) (N := 9) hx hb hts in_Till hown hK hP 0 rfl rfl 1 (by decide) (hts _ kw_237) (fun _ h9 => h9) rfl d_Till_article_43 ?_
  refine lv_iload_n hx hb d_Till_article_46 rfl (lv_at hl 1 rfl) ?_
  refine lv_iload_n hx hb d_Till_article_47 rfl (lv_at hl 3 rfl) ?_
  obtain ⟨hi15, h⟩ := h
  refine va_iast hx hb hK hP hD hS 1 0 rfl rfl hi15 d_Till_article_48 (fun H locs hP hD hS => ?_)
  obtain ⟨θ16, eθ16⟩ : ∃ z, z = s2 θ 1 (Int32.toNatClampNeg x1) x3 := ⟨_, rfl⟩
  replace hP : va_P D CL (wTill k gX θ16 (gT 0) (gB 0) x_keptUnits x_planner x_plan x_receipts ++ (wBasket k gB β ++ (wTariff k gT τ14 f))) H := by rw [eθ16]; exact hP
  replace hD : va_D A (wTill k gX θ16 (gT 0) (gB 0) x_keptUnits x_planner x_plan x_receipts ++ (wBasket k gB β ++ (wTariff k gT τ14 f))) := by rw [eθ16]; exact hD
  replace h := h θ16 eθ16
  exact retX_v (u := (θ16, τ14)) (wf := (fun u : (St) × (St) => wTill k gX u.1 (gT 0) (gB 0) x_keptUnits x_planner x_plan x_receipts ++ (wBasket k gB β ++ (wTariff k gT u.2 f)))) C hP hD hS (Nat.le_of_ble_eq_true rfl) (Nat.le_of_ble_eq_true rfl) ⟨rfl, h⟩ d_Till_article_49
set_option maxHeartbeats 4000000 in
set_option maxRecDepth 100000 in
theorem m_Till_offer {l : Launch} {D : va_G} {k : Nat → ClassId} (hlt : l.stackTraces = false) (N : Nat) (gX : Nat → Nat) (gB : Nat → Nat) (gT : Nat → Nat) (go : Nat → Nat → Nat) (x_keptUnits : Nat) (x_planner : Nat) (x_plan : Nat) (x_receipts : Nat) (θ : St) (β : St) (τ : St) (ω : Nat → St) (x1 : Int32) (x2 : Int32) (x3 : Int32) (x4 : Int32) (x5 : Int32) (post : ((Nat → St)) → Prop) (xp : String → ((Nat → St)) → Prop) (h : wp_Till_offer N  θ β τ ω x1 x2 x3 x4 x5 post xp) : CX l D k y_Till_offer b_Till_offer 7 none rm_Till_offer [.ref (gX 0), .int x1, .int x2, .int x3, .int x4, .int x5] (wTill k gX θ (gT 0) (gB 0) x_keptUnits x_planner x_plan x_receipts ++ (wBasket k gB β ++ (wTariff k gT τ (fun i => some (go i 0)) ++ (wOffer k (go 0) (ω 0) ++ (wOffer k (go 1) (ω 1) ++ (wOffer k (go 2) (ω 2) ++ (wOffer k (go 3) (ω 3) ++ (wOffer k (go 4) (ω 4) ++ (wOffer k (go 5) (ω 5)))))))))) (fun u : (Nat → St) => wTill k gX θ (gT 0) (gB 0) x_keptUnits x_planner x_plan x_receipts ++ (wBasket k gB β ++ (wTariff k gT τ (fun i => some (go i 0)) ++ (wOffer k (go 0) (u 0) ++ (wOffer k (go 1) (u 1) ++ (wOffer k (go 2) (u 2) ++ (wOffer k (go 3) (u 3) ++ (wOffer k (go 4) (u 4) ++ (wOffer k (go 5) (u 5)))))))))) (fun v (u : (Nat → St)) => v = none ∧ post u) xp := by
  refine CX.of (by decide) (Nat.le_of_ble_eq_true rfl) ?_
  intro p e s m below meth c A H locs ls C hX hcx hP hD hS hl
  obtain ⟨hx, hb, hr, hlk, hml, hown, hts, hK, hA⟩ := id C
  obtain ⟨t9, hZ9, hT9, hE9⟩ := id hX.2
  replace hl : lv_has ls 7 [(0, .ref (gX 0)), (1, .int x1), (2, .int x2), (3, .int x3), (4, .int x4), (5, .int x5)] := hl
  unfold wp_Till_offer at h
  refine lv_iload_n hx hb d_Till_offer_0 rfl (lv_at hl 1 rfl) ?_
  refine callXS (As := [.int x1]) (rest := []) C hX hS (Jn.none (S := Unit) hP hD hS hA) (m_Till_requireOffer hlt N   x1  _ _ h) kw_381 kw_382 kw_1 kw_383 (hd_Till_requireOffer).2 rfl ⟨Nat.le_of_ble_eq_true rfl, Nat.le_of_ble_eq_true rfl⟩ ⟨Nat.le_of_ble_eq_true rfl, Nat.le_of_ble_eq_true rfl⟩ hl.1 (Nat.le_of_ble_eq_true rfl) d_Till_offer_1 (fun v9 u1 H locs h hP hD hS => ?_) (fun q9 E9 u9 ce9 H locs h hP hD hS hce9 hcv9 hcl9 => ?_)
  rotate_left
  · exact outX (u := ω) (wf := (fun u : (Nat → St) => wTill k gX θ (gT 0) (gB 0) x_keptUnits x_planner x_plan x_receipts ++ (wBasket k gB β ++ (wTariff k gT τ (fun i => some (go i 0)) ++ (wOffer k (go 0) (u 0) ++ (wOffer k (go 1) (u 1) ++ (wOffer k (go 2) (u 2) ++ (wOffer k (go 3) (u 3) ++ (wOffer k (go 4) (u 4) ++ (wOffer k (go 5) (u 5))))))))))) C hcx hP hD hS hce9 hcv9 hcl9 (Nat.le_of_ble_eq_true rfl) (Nat.le_of_ble_eq_true rfl) h
  obtain ⟨rfl, h⟩ := h
  refine W.eq (g2 := F0 m 4 ls []) rfl ?_
  replace hP : va_P D CL (wTill k gX θ (gT 0) (gB 0) x_keptUnits x_planner x_plan x_receipts ++ (wBasket k gB β ++ (wTariff k gT τ (fun i => some (go i 0)) ++ (wOffer k (go 0) (ω 0) ++ (wOffer k (go 1) (ω 1) ++ (wOffer k (go 2) (ω 2) ++ (wOffer k (go 3) (ω 3) ++ (wOffer k (go 4) (ω 4) ++ (wOffer k (go 5) (ω 5)))))))))) H := hP
  replace hD : va_D A (wTill k gX θ (gT 0) (gB 0) x_keptUnits x_planner x_plan x_receipts ++ (wBasket k gB β ++ (wTariff k gT τ (fun i => some (go i 0)) ++ (wOffer k (go 0) (ω 0) ++ (wOffer k (go 1) (ω 1) ++ (wOffer k (go 2) (ω 2) ++ (wOffer k (go 3) (ω 3) ++ (wOffer k (go 4) (ω 4) ++ (wOffer k (go 5) (ω 5)))))))))) := hD
  try dsimp only at h
  refine lv_iload_n hx hb d_Till_offer_4 rfl (lv_at hl 2 rfl) ?_
  refine lv_iconst (v := 0) hx hb d_Till_offer_5 (by decide) ?_
  refine lv_iconst (v := 3) hx hb d_Till_offer_6 (by decide) ?_
  refine none_i C hP hD hS (runS (As := [.int x2, .int 0, .int 3]) (rest := []) C nilP nilD (m_Till_within N   x2 0 3  _ h H.size) kw_276 kw_277 kw_1 kw_278 (hd_Till_within).2 ⟨Nat.le_of_ble_eq_true rfl, Nat.le_of_ble_eq_true rfl⟩ ⟨Nat.le_of_ble_eq_true rfl, Nat.le_of_ble_eq_true rfl⟩ rfl hl.1 (Nat.le_of_ble_eq_true rfl) d_Till_offer_7) (fun r4 u3 H locs h hP hD hS => ?_)
  try dsimp only at h
  refine callXS (As := [.int r4]) (rest := []) C hX hS (Jn.none (S := Unit) hP hD hS hA) (m_Till_requireArgument hlt N   r4  _ _ h) kw_279 kw_280 kw_1 kw_281 (hd_Till_requireArgument).2 rfl ⟨Nat.le_of_ble_eq_true rfl, Nat.le_of_ble_eq_true rfl⟩ ⟨Nat.le_of_ble_eq_true rfl, Nat.le_of_ble_eq_true rfl⟩ hl.1 (Nat.le_of_ble_eq_true rfl) d_Till_offer_10 (fun v9 u5 H locs h hP hD hS => ?_) (fun q9 E9 u9 ce9 H locs h hP hD hS hce9 hcv9 hcl9 => ?_)
  rotate_left
  · exact outX (u := ω) (wf := (fun u : (Nat → St) => wTill k gX θ (gT 0) (gB 0) x_keptUnits x_planner x_plan x_receipts ++ (wBasket k gB β ++ (wTariff k gT τ (fun i => some (go i 0)) ++ (wOffer k (go 0) (u 0) ++ (wOffer k (go 1) (u 1) ++ (wOffer k (go 2) (u 2) ++ (wOffer k (go 3) (u 3) ++ (wOffer k (go 4) (u 4) ++ (wOffer k (go 5) (u 5))))))))))) C hcx hP hD hS hce9 hcv9 hcl9 (Nat.le_of_ble_eq_true rfl) (Nat.le_of_ble_eq_true rfl) h
  obtain ⟨rfl, h⟩ := h
  refine W.eq (g2 := F0 m 13 ls []) rfl ?_
  replace hP : va_P D CL (wTill k gX θ (gT 0) (gB 0) x_keptUnits x_planner x_plan x_receipts ++ (wBasket k gB β ++ (wTariff k gT τ (fun i => some (go i 0)) ++ (wOffer k (go 0) (ω 0) ++ (wOffer k (go 1) (ω 1) ++ (wOffer k (go 2) (ω 2) ++ (wOffer k (go 3) (ω 3) ++ (wOffer k (go 4) (ω 4) ++ (wOffer k (go 5) (ω 5)))))))))) H := hP
  replace hD : va_D A (wTill k gX θ (gT 0) (gB 0) x_keptUnits x_planner x_plan x_receipts ++ (wBasket k gB β ++ (wTariff k gT τ (fun i => some (go i 0)) ++ (wOffer k (go 0) (ω 0) ++ (wOffer k (go 1) (ω 1) ++ (wOffer k (go 2) (ω 2) ++ (wOffer k (go 3) (ω 3) ++ (wOffer k (go 4) (ω 4) ++ (wOffer k (go 5) (ω 5)))))))))) := hD
  try dsimp only at h
  refine lv_iload_n hx hb d_Till_offer_13 rfl (lv_at hl 3 rfl) ?_
  refine lv_iconst (v := 2) hx hb d_Till_offer_14 (by decide) ?_
  refine lv_iconst (v := 4) hx hb d_Till_offer_15 (by decide) ?_
  refine none_i C hP hD hS (runS (As := [.int x3, .int 2, .int 4]) (rest := []) C nilP nilD (m_Till_within N   x3 2 4  _ h H.size) kw_276 kw_277 kw_1 kw_278 (hd_Till_within).2 ⟨Nat.le_of_ble_eq_true rfl, Nat.le_of_ble_eq_true rfl⟩ ⟨Nat.le_of_ble_eq_true rfl, Nat.le_of_ble_eq_true rfl⟩ rfl hl.1 (Nat.le_of_ble_eq_true rfl) d_Till_offer_16) (fun r8 u7 H locs h hP hD hS => ?_)
  try dsimp only at h
  refine callXS (As := [.int r8]) (rest := []) C hX hS (Jn.none (S := Unit) hP hD hS hA) (m_Till_requireArgument hlt N   r8  _ _ h) kw_279 kw_280 kw_1 kw_281 (hd_Till_requireArgument).2 rfl ⟨Nat.le_of_ble_eq_true rfl, Nat.le_of_ble_eq_true rfl⟩ ⟨Nat.le_of_ble_eq_true rfl, Nat.le_of_ble_eq_true rfl⟩ hl.1 (Nat.le_of_ble_eq_true rfl) d_Till_offer_19 (fun v9 u9 H locs h hP hD hS => ?_) (fun q9 E9 u9 ce9 H locs h hP hD hS hce9 hcv9 hcl9 => ?_)
  rotate_left
  · exact outX (u := ω) (wf := (fun u : (Nat → St) => wTill k gX θ (gT 0) (gB 0) x_keptUnits x_planner x_plan x_receipts ++ (wBasket k gB β ++ (wTariff k gT τ (fun i => some (go i 0)) ++ (wOffer k (go 0) (u 0) ++ (wOffer k (go 1) (u 1) ++ (wOffer k (go 2) (u 2) ++ (wOffer k (go 3) (u 3) ++ (wOffer k (go 4) (u 4) ++ (wOffer k (go 5) (u 5))))))))))) C hcx hP hD hS hce9 hcv9 hcl9 (Nat.le_of_ble_eq_true rfl) (Nat.le_of_ble_eq_true rfl) h
  obtain ⟨rfl, h⟩ := h
  refine W.eq (g2 := F0 m 22 ls []) rfl ?_
  replace hP : va_P D CL (wTill k gX θ (gT 0) (gB 0) x_keptUnits x_planner x_plan x_receipts ++ (wBasket k gB β ++ (wTariff k gT τ (fun i => some (go i 0)) ++ (wOffer k (go 0) (ω 0) ++ (wOffer k (go 1) (ω 1) ++ (wOffer k (go 2) (ω 2) ++ (wOffer k (go 3) (ω 3) ++ (wOffer k (go 4) (ω 4) ++ (wOffer k (go 5) (ω 5)))))))))) H := hP
  replace hD : va_D A (wTill k gX θ (gT 0) (gB 0) x_keptUnits x_planner x_plan x_receipts ++ (wBasket k gB β ++ (wTariff k gT τ (fun i => some (go i 0)) ++ (wOffer k (go 0) (ω 0) ++ (wOffer k (go 1) (ω 1) ++ (wOffer k (go 2) (ω 2) ++ (wOffer k (go 3) (ω 3) ++ (wOffer k (go 4) (ω 4) ++ (wOffer k (go 5) (ω 5)))))))))) := hD
  try dsimp only at h
  refine lv_iload hx hb d_Till_offer_22 (lv_at hl 4 rfl) ?_
  refine lv_iconst (v := 0) hx hb d_Till_offer_24 (by decide) ?_
  refine lv_ldc (v := 400000) hx hb hown (hts _ kw_384) d_Till_offer_25 ?_
  refine none_i C hP hD hS (runS (As := [.int x4, .int 0, .int 400000]) (rest := []) C nilP nilD (m_Till_within N   x4 0 400000  _ h H.size) kw_276 kw_277 kw_1 kw_278 (hd_Till_within).2 ⟨Nat.le_of_ble_eq_true rfl, Nat.le_of_ble_eq_true rfl⟩ ⟨Nat.le_of_ble_eq_true rfl, Nat.le_of_ble_eq_true rfl⟩ rfl hl.1 (Nat.le_of_ble_eq_true rfl) d_Till_offer_27) (fun r12 u11 H locs h hP hD hS => ?_)
  try dsimp only at h
  refine callXS (As := [.int r12]) (rest := []) C hX hS (Jn.none (S := Unit) hP hD hS hA) (m_Till_requireArgument hlt N   r12  _ _ h) kw_279 kw_280 kw_1 kw_281 (hd_Till_requireArgument).2 rfl ⟨Nat.le_of_ble_eq_true rfl, Nat.le_of_ble_eq_true rfl⟩ ⟨Nat.le_of_ble_eq_true rfl, Nat.le_of_ble_eq_true rfl⟩ hl.1 (Nat.le_of_ble_eq_true rfl) d_Till_offer_30 (fun v9 u13 H locs h hP hD hS => ?_) (fun q9 E9 u9 ce9 H locs h hP hD hS hce9 hcv9 hcl9 => ?_)
  rotate_left
  · exact outX (u := ω) (wf := (fun u : (Nat → St) => wTill k gX θ (gT 0) (gB 0) x_keptUnits x_planner x_plan x_receipts ++ (wBasket k gB β ++ (wTariff k gT τ (fun i => some (go i 0)) ++ (wOffer k (go 0) (u 0) ++ (wOffer k (go 1) (u 1) ++ (wOffer k (go 2) (u 2) ++ (wOffer k (go 3) (u 3) ++ (wOffer k (go 4) (u 4) ++ (wOffer k (go 5) (u 5))))))))))) C hcx hP hD hS hce9 hcv9 hcl9 (Nat.le_of_ble_eq_true rfl) (Nat.le_of_ble_eq_true rfl) h
  obtain ⟨rfl, h⟩ := h
  refine W.eq (g2 := F0 m 33 ls []) rfl ?_
  replace hP : va_P D CL (wTill k gX θ (gT 0) (gB 0) x_keptUnits x_planner x_plan x_receipts ++ (wBasket k gB β ++ (wTariff k gT τ (fun i => some (go i 0)) ++ (wOffer k (go 0) (ω 0) ++ (wOffer k (go 1) (ω 1) ++ (wOffer k (go 2) (ω 2) ++ (wOffer k (go 3) (ω 3) ++ (wOffer k (go 4) (ω 4) ++ (wOffer k (go 5) (ω 5)))))))))) H := hP
  replace hD : va_D A (wTill k gX θ (gT 0) (gB 0) x_keptUnits x_planner x_plan x_receipts ++ (wBasket k gB β ++ (wTariff k gT τ (fun i => some (go i 0)) ++ (wOffer k (go 0) (ω 0) ++ (wOffer k (go 1) (ω 1) ++ (wOffer k (go 2) (ω 2) ++ (wOffer k (go 3) (ω 3) ++ (wOffer k (go 4) (ω 4) ++ (wOffer k (go 5) (ω 5)))))))))) := hD
  try dsimp only at h
  refine lv_iload hx hb d_Till_offer_33 (lv_at hl 5 rfl) ?_
  refine lv_iconst (v := 0) hx hb d_Till_offer_35 (by decide) ?_
  refine lv_iconst (v := 5) hx hb d_Till_offer_36 (by decide) ?_
  refine none_i C hP hD hS (runS (As := [.int x5, .int 0, .int 5]) (rest := []) C nilP nilD (m_Till_within N   x5 0 5  _ h H.size) kw_276 kw_277 kw_1 kw_278 (hd_Till_within).2 ⟨Nat.le_of_ble_eq_true rfl, Nat.le_of_ble_eq_true rfl⟩ ⟨Nat.le_of_ble_eq_true rfl, Nat.le_of_ble_eq_true rfl⟩ rfl hl.1 (Nat.le_of_ble_eq_true rfl) d_Till_offer_37) (fun r16 u15 H locs h hP hD hS => ?_)
  try dsimp only at h
  refine callXS (As := [.int r16]) (rest := []) C hX hS (Jn.none (S := Unit) hP hD hS hA) (m_Till_requireArgument hlt N   r16  _ _ h) kw_279 kw_280 kw_1 kw_281 (hd_Till_requireArgument).2 rfl ⟨Nat.le_of_ble_eq_true rfl, Nat.le_of_ble_eq_true rfl⟩ ⟨Nat.le_of_ble_eq_true rfl, Nat.le_of_ble_eq_true rfl⟩ hl.1 (Nat.le_of_ble_eq_true rfl) d_Till_offer_40 (fun v9 u17 H locs h hP hD hS => ?_) (fun q9 E9 u9 ce9 H locs h hP hD hS hce9 hcv9 hcl9 => ?_)
  rotate_left
  · exact outX (u := ω) (wf := (fun u : (Nat → St) => wTill k gX θ (gT 0) (gB 0) x_keptUnits x_planner x_plan x_receipts ++ (wBasket k gB β ++ (wTariff k gT τ (fun i => some (go i 0)) ++ (wOffer k (go 0) (u 0) ++ (wOffer k (go 1) (u 1) ++ (wOffer k (go 2) (u 2) ++ (wOffer k (go 3) (u 3) ++ (wOffer k (go 4) (u 4) ++ (wOffer k (go 5) (u 5))))))))))) C hcx hP hD hS hce9 hcv9 hcl9 (Nat.le_of_ble_eq_true rfl) (Nat.le_of_ble_eq_true rfl) h
  obtain ⟨rfl, h⟩ := h
  refine W.eq (g2 := F0 m 43 ls []) rfl ?_
  replace hP : va_P D CL (wTill k gX θ (gT 0) (gB 0) x_keptUnits x_planner x_plan x_receipts ++ (wBasket k gB β ++ (wTariff k gT τ (fun i => some (go i 0)) ++ (wOffer k (go 0) (ω 0) ++ (wOffer k (go 1) (ω 1) ++ (wOffer k (go 2) (ω 2) ++ (wOffer k (go 3) (ω 3) ++ (wOffer k (go 4) (ω 4) ++ (wOffer k (go 5) (ω 5)))))))))) H := hP
  replace hD : va_D A (wTill k gX θ (gT 0) (gB 0) x_keptUnits x_planner x_plan x_receipts ++ (wBasket k gB β ++ (wTariff k gT τ (fun i => some (go i 0)) ++ (wOffer k (go 0) (ω 0) ++ (wOffer k (go 1) (ω 1) ++ (wOffer k (go 2) (ω 2) ++ (wOffer k (go 3) (ω 3) ++ (wOffer k (go 4) (ω 4) ++ (wOffer k (go 5) (ω 5)))))))))) := hD
  try dsimp only at h
  refine lv_aload_n hx hb d_Till_offer_43 rfl (lv_at hl 0 rfl) ?_
  refine callXV (As := []) (rest := []) C hX hS (Jn.part (wr := [(gT 0, .inr (5, [.ref (gT 1), .ref (gT 2)])), (gT 1, .inl (k 0, 12, .inl (τ 0))), (gT 2, .inl (k 3, 6, .inr (.inr (.inr (.inr (fun i => some (go i 0))))))), ((go 0) 0, .inr (1, [.int ((ω 0) 0 0), .int ((ω 0) 1 0), .int ((ω 0) 2 0), .int ((ω 0) 3 0), .int ((ω 0) 4 0), .ref ((go 0) 1)])), ((go 0) 1, .inl (k 0, 4, .inl ((ω 0) 5))), ((go 1) 0, .inr (1, [.int ((ω 1) 0 0), .int ((ω 1) 1 0), .int ((ω 1) 2 0), .int ((ω 1) 3 0), .int ((ω 1) 4 0), .ref ((go 1) 1)])), ((go 1) 1, .inl (k 0, 4, .inl ((ω 1) 5))), ((go 2) 0, .inr (1, [.int ((ω 2) 0 0), .int ((ω 2) 1 0), .int ((ω 2) 2 0), .int ((ω 2) 3 0), .int ((ω 2) 4 0), .ref ((go 2) 1)])), ((go 2) 1, .inl (k 0, 4, .inl ((ω 2) 5))), ((go 3) 0, .inr (1, [.int ((ω 3) 0 0), .int ((ω 3) 1 0), .int ((ω 3) 2 0), .int ((ω 3) 3 0), .int ((ω 3) 4 0), .ref ((go 3) 1)])), ((go 3) 1, .inl (k 0, 4, .inl ((ω 3) 5))), ((go 4) 0, .inr (1, [.int ((ω 4) 0 0), .int ((ω 4) 1 0), .int ((ω 4) 2 0), .int ((ω 4) 3 0), .int ((ω 4) 4 0), .ref ((go 4) 1)])), ((go 4) 1, .inl (k 0, 4, .inl ((ω 4) 5))), ((go 5) 0, .inr (1, [.int ((ω 5) 0 0), .int ((ω 5) 1 0), .int ((ω 5) 2 0), .int ((ω 5) 3 0), .int ((ω 5) 4 0), .ref ((go 5) 1)])), ((go 5) 1, .inl (k 0, 4, .inl ((ω 5) 5)))]) (wn := (fun u19 : Unit => wTill k gX θ (gT 0) (gB 0) x_keptUnits x_planner x_plan x_receipts ++ (wBasket k gB β ++ (wTariff k gT τ (fun i => some (go i 0)) ++ (wOffer k (go 0) (ω 0) ++ (wOffer k (go 1) (ω 1) ++ (wOffer k (go 2) (ω 2) ++ (wOffer k (go 3) (ω 3) ++ (wOffer k (go 4) (ω 4) ++ (wOffer k (go 5) (ω 5))))))))))) hP hD hS hA [0, 1, 2, 3] [4, 5, 6, 7, 8, 9, 10, 11, 12, 13, 14, 15, 16, 17, 18] [15, 16, 17, 18, 0, 1, 2, 3, 4, 5, 6, 7, 8, 9, 10, 11, 12, 13, 14] rfl (by decide) rfl (by decide) (by decide) (fun _ => rfl) (by decide)) (m_Till_requireEmptyBasket hlt N gX gB (gT 0) x_keptUnits x_planner x_plan x_receipts θ β   _ _ h) kw_354 kw_356 kp_1 kw_1 kw_357 hd_Till_requireEmptyBasket 0 rfl rfl rfl rfl ⟨Nat.le_of_ble_eq_true rfl, Nat.le_of_ble_eq_true rfl⟩ ⟨Nat.le_of_ble_eq_true rfl, Nat.le_of_ble_eq_true rfl⟩ hl.1 (Nat.le_of_ble_eq_true rfl) d_Till_offer_44 (fun v9 u19 H locs h hP hD hS => ?_) (fun q9 E9 u9 ce9 H locs h hP hD hS hce9 hcv9 hcl9 => ?_)
  rotate_left
  · exact outX (u := ω) (wf := (fun u : (Nat → St) => wTill k gX θ (gT 0) (gB 0) x_keptUnits x_planner x_plan x_receipts ++ (wBasket k gB β ++ (wTariff k gT τ (fun i => some (go i 0)) ++ (wOffer k (go 0) (u 0) ++ (wOffer k (go 1) (u 1) ++ (wOffer k (go 2) (u 2) ++ (wOffer k (go 3) (u 3) ++ (wOffer k (go 4) (u 4) ++ (wOffer k (go 5) (u 5))))))))))) C hcx hP hD hS hce9 hcv9 hcl9 (Nat.le_of_ble_eq_true rfl) (Nat.le_of_ble_eq_true rfl) h
  obtain ⟨rfl, h⟩ := h
  refine W.eq (g2 := F0 m 47 ls []) rfl ?_
  replace hP : va_P D CL (wTill k gX θ (gT 0) (gB 0) x_keptUnits x_planner x_plan x_receipts ++ (wBasket k gB β ++ (wTariff k gT τ (fun i => some (go i 0)) ++ (wOffer k (go 0) (ω 0) ++ (wOffer k (go 1) (ω 1) ++ (wOffer k (go 2) (ω 2) ++ (wOffer k (go 3) (ω 3) ++ (wOffer k (go 4) (ω 4) ++ (wOffer k (go 5) (ω 5)))))))))) H := hP
  replace hD : va_D A (wTill k gX θ (gT 0) (gB 0) x_keptUnits x_planner x_plan x_receipts ++ (wBasket k gB β ++ (wTariff k gT τ (fun i => some (go i 0)) ++ (wOffer k (go 0) (ω 0) ++ (wOffer k (go 1) (ω 1) ++ (wOffer k (go 2) (ω 2) ++ (wOffer k (go 3) (ω 3) ++ (wOffer k (go 4) (ω 4) ++ (wOffer k (go 5) (ω 5)))))))))) := hD
  try dsimp only at h
  refine lv_aload_n hx hb d_Till_offer_47 rfl (lv_at hl 0 rfl) ?_
  refine va_get (D := D) (ci := 7) (v := .ref (gT 0)) (C := R_Till) (T := F_Till) (N := 9) hx hb hts in_Till hown hK hP 0 rfl rfl 0 (by decide) (hts _ kw_236) (fun _ h9 => h9) rfl d_Till_offer_48 ?_
  refine va_get (D := D) (ci := 5) (v := .ref (gT 2)) (C := R_Tariff) (T := F_Tariff) (N := 2) hx hb hts in_Tariff hown hK hP 4 rfl rfl 1 (by decide) (hts _ kw_89) (fun _ h9 => h9) rfl d_Till_offer_51 ?_
  refine lv_iload_n hx hb d_Till_offer_54 rfl (lv_at hl 1 rfl) ?_
  obtain ⟨hi21, h⟩ := h
  refine va_aldq hx hb hK hP 6 3 rfl rfl hi21 d_Till_offer_55 ?_
  obtain ⟨i9, hi9, e9⟩ := vp_in_of hi21 (by decide)
  rcases (show i9 = 0 ∨ i9 = 1 ∨ i9 = 2 ∨ i9 = 3 ∨ i9 = 4 ∨ i9 = 5 by omega) with rfl | rfl | rfl | rfl | rfl | rfl
  · subst e9
    try simp only [show (nI 0).toNatClampNeg = 0 from rfl] at h
    refine W.eq (g2 := F0 m 56 ls [.ref ((go 0) 0)]) rfl ?_
    refine lv_astore (lv' := [(6, .ref ((go 0) 0)), (0, .ref (gX 0)), (1, .int (nI 0)), (2, .int x2), (3, .int x3), (4, .int x4), (5, .int x5)]) hx hb d_Till_offer_56 hl (by decide) rfl (fun ls hl => ?_)
    refine lv_aload hx hb d_Till_offer_58 (lv_at hl 0 rfl) ?_
    refine lv_iload_n hx hb d_Till_offer_60 rfl (lv_at hl 3 rfl) ?_
    refine va_put (D := D) (ci := 1) (v := .int x2) (ty := .int) (C := R_Offer) (T := F_Offer) (N := 6) hx hb hts in_Offer t_Offer tt_Offer n_Offer hown hK hP hD hS 7 rfl rfl 0 (by decide) (hts _ kw_51) (fun _ h9 => h9) rfl (by decide +kernel) rfl rfl (Nat.le_of_ble_eq_true rfl) d_Till_offer_61 (fun H locs hP hD hS => ?_)
    obtain ⟨ω22, eω22⟩ : ∃ z, z = va_up ω 0 (s2 (ω 0) 0 0 x2) := ⟨_, rfl⟩
    replace hP : va_P D CL (wTill k gX θ (gT 0) (gB 0) x_keptUnits x_planner x_plan x_receipts ++ (wBasket k gB β ++ (wTariff k gT τ (fun i => some (go i 0)) ++ (wOffer k (go 0) (ω22 0) ++ (wOffer k (go 1) (ω22 1) ++ (wOffer k (go 2) (ω22 2) ++ (wOffer k (go 3) (ω22 3) ++ (wOffer k (go 4) (ω22 4) ++ (wOffer k (go 5) (ω22 5)))))))))) H := by rw [eω22]; exact hP
    replace hD : va_D A (wTill k gX θ (gT 0) (gB 0) x_keptUnits x_planner x_plan x_receipts ++ (wBasket k gB β ++ (wTariff k gT τ (fun i => some (go i 0)) ++ (wOffer k (go 0) (ω22 0) ++ (wOffer k (go 1) (ω22 1) ++ (wOffer k (go 2) (ω22 2) ++ (wOffer k (go 3) (ω22 3) ++ (wOffer k (go 4) (ω22 4) ++ (wOffer k (go 5) (ω22 5)))))))))) := by rw [eω22]; exact hD
    replace h := h ω22 eω22
    refine lv_aload hx hb d_Till_offer_64 (lv_at hl 0 rfl) ?_
    refine lv_iload_n hx hb d_Till_offer_66 rfl (lv_at hl 4 rfl) ?_
    refine va_put (D := D) (ci := 1) (v := .int x3) (ty := .int) (C := R_Offer) (T := F_Offer) (N := 6) hx hb hts in_Offer t_Offer tt_Offer n_Offer hown hK hP hD hS 7 rfl rfl 1 (by decide) (hts _ kw_54) (fun _ h9 => h9) rfl (by decide +kernel) rfl rfl (Nat.le_of_ble_eq_true rfl) d_Till_offer_67 (fun H locs hP hD hS => ?_)
    obtain ⟨ω23, eω23⟩ : ∃ z, z = va_up ω22 0 (s2 (ω22 0) 1 0 x3) := ⟨_, rfl⟩
    replace hP : va_P D CL (wTill k gX θ (gT 0) (gB 0) x_keptUnits x_planner x_plan x_receipts ++ (wBasket k gB β ++ (wTariff k gT τ (fun i => some (go i 0)) ++ (wOffer k (go 0) (ω23 0) ++ (wOffer k (go 1) (ω23 1) ++ (wOffer k (go 2) (ω23 2) ++ (wOffer k (go 3) (ω23 3) ++ (wOffer k (go 4) (ω23 4) ++ (wOffer k (go 5) (ω23 5)))))))))) H := by rw [eω23]; exact hP
    replace hD : va_D A (wTill k gX θ (gT 0) (gB 0) x_keptUnits x_planner x_plan x_receipts ++ (wBasket k gB β ++ (wTariff k gT τ (fun i => some (go i 0)) ++ (wOffer k (go 0) (ω23 0) ++ (wOffer k (go 1) (ω23 1) ++ (wOffer k (go 2) (ω23 2) ++ (wOffer k (go 3) (ω23 3) ++ (wOffer k (go 4) (ω23 4) ++ (wOffer k (go 5) (ω23 5)))))))))) := by rw [eω23]; exact hD
    replace h := h ω23 eω23
    refine lv_aload hx hb d_Till_offer_70 (lv_at hl 0 rfl) ?_
    refine lv_iload hx hb d_Till_offer_72 (lv_at hl 5 rfl) ?_
    refine va_put (D := D) (ci := 1) (v := .int x4) (ty := .int) (C := R_Offer) (T := F_Offer) (N := 6) hx hb hts in_Offer t_Offer tt_Offer n_Offer hown hK hP hD hS 7 rfl rfl 2 (by decide) (hts _ kw_55) (fun _ h9 => h9) rfl (by decide +kernel) rfl rfl (Nat.le_of_ble_eq_true rfl) d_Till_offer_74 (fun H locs hP hD hS => ?_)
    obtain ⟨ω24, eω24⟩ : ∃ z, z = va_up ω23 0 (s2 (ω23 0) 2 0 x4) := ⟨_, rfl⟩
    replace hP : va_P D CL (wTill k gX θ (gT 0) (gB 0) x_keptUnits x_planner x_plan x_receipts ++ (wBasket k gB β ++ (wTariff k gT τ (fun i => some (go i 0)) ++ (wOffer k (go 0) (ω24 0) ++ (wOffer k (go 1) (ω24 1) ++ (wOffer k (go 2) (ω24 2) ++ (wOffer k (go 3) (ω24 3) ++ (wOffer k (go 4) (ω24 4) ++ (wOffer k (go 5) (ω24 5)))))))))) H := by rw [eω24]; exact hP
    replace hD : va_D A (wTill k gX θ (gT 0) (gB 0) x_keptUnits x_planner x_plan x_receipts ++ (wBasket k gB β ++ (wTariff k gT τ (fun i => some (go i 0)) ++ (wOffer k (go 0) (ω24 0) ++ (wOffer k (go 1) (ω24 1) ++ (wOffer k (go 2) (ω24 2) ++ (wOffer k (go 3) (ω24 3) ++ (wOffer k (go 4) (ω24 4) ++ (wOffer k (go 5) (ω24 5)))))))))) := by rw [eω24]; exact hD
    replace h := h ω24 eω24
    refine lv_aload hx hb d_Till_offer_77 (lv_at hl 0 rfl) ?_
    refine lv_iload hx hb d_Till_offer_79 (lv_at hl 6 rfl) ?_
    refine va_put (D := D) (ci := 1) (v := .int x5) (ty := .int) (C := R_Offer) (T := F_Offer) (N := 6) hx hb hts in_Offer t_Offer tt_Offer n_Offer hown hK hP hD hS 7 rfl rfl 3 (by decide) (hts _ kw_58) (fun _ h9 => h9) rfl (by decide +kernel) rfl rfl (Nat.le_of_ble_eq_true rfl) d_Till_offer_81 (fun H locs hP hD hS => ?_)
    obtain ⟨ω25, eω25⟩ : ∃ z, z = va_up ω24 0 (s2 (ω24 0) 3 0 x5) := ⟨_, rfl⟩
    replace hP : va_P D CL (wTill k gX θ (gT 0) (gB 0) x_keptUnits x_planner x_plan x_receipts ++ (wBasket k gB β ++ (wTariff k gT τ (fun i => some (go i 0)) ++ (wOffer k (go 0) (ω25 0) ++ (wOffer k (go 1) (ω25 1) ++ (wOffer k (go 2) (ω25 2) ++ (wOffer k (go 3) (ω25 3) ++ (wOffer k (go 4) (ω25 4) ++ (wOffer k (go 5) (ω25 5)))))))))) H := by rw [eω25]; exact hP
    replace hD : va_D A (wTill k gX θ (gT 0) (gB 0) x_keptUnits x_planner x_plan x_receipts ++ (wBasket k gB β ++ (wTariff k gT τ (fun i => some (go i 0)) ++ (wOffer k (go 0) (ω25 0) ++ (wOffer k (go 1) (ω25 1) ++ (wOffer k (go 2) (ω25 2) ++ (wOffer k (go 3) (ω25 3) ++ (wOffer k (go 4) (ω25 4) ++ (wOffer k (go 5) (ω25 5)))))))))) := by rw [eω25]; exact hD
    replace h := h ω25 eω25
    exact retX_v (u := ω25) (wf := (fun u : (Nat → St) => wTill k gX θ (gT 0) (gB 0) x_keptUnits x_planner x_plan x_receipts ++ (wBasket k gB β ++ (wTariff k gT τ (fun i => some (go i 0)) ++ (wOffer k (go 0) (u 0) ++ (wOffer k (go 1) (u 1) ++ (wOffer k (go 2) (u 2) ++ (wOffer k (go 3) (u 3) ++ (wOffer k (go 4) (u 4) ++ (wOffer k (go 5) (u 5))))))))))) C hP hD hS (Nat.le_of_ble_eq_true rfl) (Nat.le_of_ble_eq_true rfl) ⟨rfl, h⟩ d_Till_offer_84
  · subst e9
    try simp only [show (nI 1).toNatClampNeg = 1 from rfl] at h
    refine W.eq (g2 := F0 m 56 ls [.ref ((go 1) 0)]) rfl ?_
    refine lv_astore (lv' := [(6, .ref ((go 1) 0)), (0, .ref (gX 0)), (1, .int (nI 1)), (2, .int x2), (3, .int x3), (4, .int x4), (5, .int x5)]) hx hb d_Till_offer_56 hl (by decide) rfl (fun ls hl => ?_)
    refine lv_aload hx hb d_Till_offer_58 (lv_at hl 0 rfl) ?_
    refine lv_iload_n hx hb d_Till_offer_60 rfl (lv_at hl 3 rfl) ?_
    refine va_put (D := D) (ci := 1) (v := .int x2) (ty := .int) (C := R_Offer) (T := F_Offer) (N := 6) hx hb hts in_Offer t_Offer tt_Offer n_Offer hown hK hP hD hS 9 rfl rfl 0 (by decide) (hts _ kw_51) (fun _ h9 => h9) rfl (by decide +kernel) rfl rfl (Nat.le_of_ble_eq_true rfl) d_Till_offer_61 (fun H locs hP hD hS => ?_)
    obtain ⟨ω22, eω22⟩ : ∃ z, z = va_up ω 1 (s2 (ω 1) 0 0 x2) := ⟨_, rfl⟩
    replace hP : va_P D CL (wTill k gX θ (gT 0) (gB 0) x_keptUnits x_planner x_plan x_receipts ++ (wBasket k gB β ++ (wTariff k gT τ (fun i => some (go i 0)) ++ (wOffer k (go 0) (ω22 0) ++ (wOffer k (go 1) (ω22 1) ++ (wOffer k (go 2) (ω22 2) ++ (wOffer k (go 3) (ω22 3) ++ (wOffer k (go 4) (ω22 4) ++ (wOffer k (go 5) (ω22 5)))))))))) H := by rw [eω22]; exact hP
    replace hD : va_D A (wTill k gX θ (gT 0) (gB 0) x_keptUnits x_planner x_plan x_receipts ++ (wBasket k gB β ++ (wTariff k gT τ (fun i => some (go i 0)) ++ (wOffer k (go 0) (ω22 0) ++ (wOffer k (go 1) (ω22 1) ++ (wOffer k (go 2) (ω22 2) ++ (wOffer k (go 3) (ω22 3) ++ (wOffer k (go 4) (ω22 4) ++ (wOffer k (go 5) (ω22 5)))))))))) := by rw [eω22]; exact hD
    replace h := h ω22 eω22
    refine lv_aload hx hb d_Till_offer_64 (lv_at hl 0 rfl) ?_
    refine lv_iload_n hx hb d_Till_offer_66 rfl (lv_at hl 4 rfl) ?_
    refine va_put (D := D) (ci := 1) (v := .int x3) (ty := .int) (C := R_Offer) (T := F_Offer) (N := 6) hx hb hts in_Offer t_Offer tt_Offer n_Offer hown hK hP hD hS 9 rfl rfl 1 (by decide) (hts _ kw_54) (fun _ h9 => h9) rfl (by decide +kernel) rfl rfl (Nat.le_of_ble_eq_true rfl) d_Till_offer_67 (fun H locs hP hD hS => ?_)
    obtain ⟨ω23, eω23⟩ : ∃ z, z = va_up ω22 1 (s2 (ω22 1) 1 0 x3) := ⟨_, rfl⟩
    replace hP : va_P D CL (wTill k gX θ (gT 0) (gB 0) x_keptUnits x_planner x_plan x_receipts ++ (wBasket k gB β ++ (wTariff k gT τ (fun i => some (go i 0)) ++ (wOffer k (go 0) (ω23 0) ++ (wOffer k (go 1) (ω23 1) ++ (wOffer k (go 2) (ω23 2) ++ (wOffer k (go 3) (ω23 3) ++ (wOffer k (go 4) (ω23 4) ++ (wOffer k (go 5) (ω23 5)))))))))) H := by rw [eω23]; exact hP
    replace hD : va_D A (wTill k gX θ (gT 0) (gB 0) x_keptUnits x_planner x_plan x_receipts ++ (wBasket k gB β ++ (wTariff k gT τ (fun i => some (go i 0)) ++ (wOffer k (go 0) (ω23 0) ++ (wOffer k (go 1) (ω23 1) ++ (wOffer k (go 2) (ω23 2) ++ (wOffer k (go 3) (ω23 3) ++ (wOffer k (go 4) (ω23 4) ++ (wOffer k (go 5) (ω23 5)))))))))) := by rw [eω23]; exact hD
    replace h := h ω23 eω23
    refine lv_aload hx hb d_Till_offer_70 (lv_at hl 0 rfl) ?_
    refine lv_iload hx hb d_Till_offer_72 (lv_at hl 5 rfl) ?_
    refine va_put (D := D) (ci := 1) (v := .int x4) (ty := .int) (C := R_Offer) (T := F_Offer) (N := 6) hx hb hts in_Offer t_Offer tt_Offer n_Offer hown hK hP hD hS 9 rfl rfl 2 (by decide) (hts _ kw_55) (fun _ h9 => h9) rfl (by decide +kernel) rfl rfl (Nat.le_of_ble_eq_true rfl) d_Till_offer_74 (fun H locs hP hD hS => ?_)
    obtain ⟨ω24, eω24⟩ : ∃ z, z = va_up ω23 1 (s2 (ω23 1) 2 0 x4) := ⟨_, rfl⟩
    replace hP : va_P D CL (wTill k gX θ (gT 0) (gB 0) x_keptUnits x_planner x_plan x_receipts ++ (wBasket k gB β ++ (wTariff k gT τ (fun i => some (go i 0)) ++ (wOffer k (go 0) (ω24 0) ++ (wOffer k (go 1) (ω24 1) ++ (wOffer k (go 2) (ω24 2) ++ (wOffer k (go 3) (ω24 3) ++ (wOffer k (go 4) (ω24 4) ++ (wOffer k (go 5) (ω24 5)))))))))) H := by rw [eω24]; exact hP
    replace hD : va_D A (wTill k gX θ (gT 0) (gB 0) x_keptUnits x_planner x_plan x_receipts ++ (wBasket k gB β ++ (wTariff k gT τ (fun i => some (go i 0)) ++ (wOffer k (go 0) (ω24 0) ++ (wOffer k (go 1) (ω24 1) ++ (wOffer k (go 2) (ω24 2) ++ (wOffer k (go 3) (ω24 3) ++ (wOffer k (go 4) (ω24 4) ++ (wOffer k (go 5) (ω24 5)))))))))) := by rw [eω24]; exact hD
    replace h := h ω24 eω24
    refine lv_aload hx hb d_Till_offer_77 (lv_at hl 0 rfl) ?_
    refine lv_iload hx hb d_Till_offer_79 (lv_at hl 6 rfl) ?_
    refine va_put (D := D) (ci := 1) (v := .int x5) (ty := .int) (C := R_Offer) (T := F_Offer) (N := 6) hx hb hts in_Offer t_Offer tt_Offer n_Offer hown hK hP hD hS 9 rfl rfl 3 (by decide) (hts _ kw_58) (fun _ h9 => h9) rfl (by decide +kernel) rfl rfl (Nat.le_of_ble_eq_true rfl) d_Till_offer_81 (fun H locs hP hD hS => ?_)
    obtain ⟨ω25, eω25⟩ : ∃ z, z = va_up ω24 1 (s2 (ω24 1) 3 0 x5) := ⟨_, rfl⟩
    replace hP : va_P D CL (wTill k gX θ (gT 0) (gB 0) x_keptUnits x_planner x_plan x_receipts ++ (wBasket k gB β ++ (wTariff k gT τ (fun i => some (go i 0)) ++ (wOffer k (go 0) (ω25 0) ++ (wOffer k (go 1) (ω25 1) ++ (wOffer k (go 2) (ω25 2) ++ (wOffer k (go 3) (ω25 3) ++ (wOffer k (go 4) (ω25 4) ++ (wOffer k (go 5) (ω25 5)))))))))) H := by rw [eω25]; exact hP
    replace hD : va_D A (wTill k gX θ (gT 0) (gB 0) x_keptUnits x_planner x_plan x_receipts ++ (wBasket k gB β ++ (wTariff k gT τ (fun i => some (go i 0)) ++ (wOffer k (go 0) (ω25 0) ++ (wOffer k (go 1) (ω25 1) ++ (wOffer k (go 2) (ω25 2) ++ (wOffer k (go 3) (ω25 3) ++ (wOffer k (go 4) (ω25 4) ++ (wOffer k (go 5) (ω25 5)))))))))) := by rw [eω25]; exact hD
    replace h := h ω25 eω25
    exact retX_v (u := ω25) (wf := (fun u : (Nat → St) => wTill k gX θ (gT 0) (gB 0) x_keptUnits x_planner x_plan x_receipts ++ (wBasket k gB β ++ (wTariff k gT τ (fun i => some (go i 0)) ++ (wOffer k (go 0) (u 0) ++ (wOffer k (go 1) (u 1) ++ (wOffer k (go 2) (u 2) ++ (wOffer k (go 3) (u 3) ++ (wOffer k (go 4) (u 4) ++ (wOffer k (go 5) (u 5))))))))))) C hP hD hS (Nat.le_of_ble_eq_true rfl) (Nat.le_of_ble_eq_true rfl) ⟨rfl, h⟩ d_Till_offer_84
  · subst e9
    try simp only [show (nI 2).toNatClampNeg = 2 from rfl] at h
    refine W.eq (g2 := F0 m 56 ls [.ref ((go 2) 0)]) rfl ?_
    refine lv_astore (lv' := [(6, .ref ((go 2) 0)), (0, .ref (gX 0)), (1, .int (nI 2)), (2, .int x2), (3, .int x3), (4, .int x4), (5, .int x5)]) hx hb d_Till_offer_56 hl (by decide) rfl (fun ls hl => ?_)
    refine lv_aload hx hb d_Till_offer_58 (lv_at hl 0 rfl) ?_
    refine lv_iload_n hx hb d_Till_offer_60 rfl (lv_at hl 3 rfl) ?_
    refine va_put (D := D) (ci := 1) (v := .int x2) (ty := .int) (C := R_Offer) (T := F_Offer) (N := 6) hx hb hts in_Offer t_Offer tt_Offer n_Offer hown hK hP hD hS 11 rfl rfl 0 (by decide) (hts _ kw_51) (fun _ h9 => h9) rfl (by decide +kernel) rfl rfl (Nat.le_of_ble_eq_true rfl) d_Till_offer_61 (fun H locs hP hD hS => ?_)
    obtain ⟨ω22, eω22⟩ : ∃ z, z = va_up ω 2 (s2 (ω 2) 0 0 x2) := ⟨_, rfl⟩
    replace hP : va_P D CL (wTill k gX θ (gT 0) (gB 0) x_keptUnits x_planner x_plan x_receipts ++ (wBasket k gB β ++ (wTariff k gT τ (fun i => some (go i 0)) ++ (wOffer k (go 0) (ω22 0) ++ (wOffer k (go 1) (ω22 1) ++ (wOffer k (go 2) (ω22 2) ++ (wOffer k (go 3) (ω22 3) ++ (wOffer k (go 4) (ω22 4) ++ (wOffer k (go 5) (ω22 5)))))))))) H := by rw [eω22]; exact hP
    replace hD : va_D A (wTill k gX θ (gT 0) (gB 0) x_keptUnits x_planner x_plan x_receipts ++ (wBasket k gB β ++ (wTariff k gT τ (fun i => some (go i 0)) ++ (wOffer k (go 0) (ω22 0) ++ (wOffer k (go 1) (ω22 1) ++ (wOffer k (go 2) (ω22 2) ++ (wOffer k (go 3) (ω22 3) ++ (wOffer k (go 4) (ω22 4) ++ (wOffer k (go 5) (ω22 5)))))))))) := by rw [eω22]; exact hD
    replace h := h ω22 eω22
    refine lv_aload hx hb d_Till_offer_64 (lv_at hl 0 rfl) ?_
    refine lv_iload_n hx hb d_Till_offer_66 rfl (lv_at hl 4 rfl) ?_
    refine va_put (D := D) (ci := 1) (v := .int x3) (ty := .int) (C := R_Offer) (T := F_Offer) (N := 6) hx hb hts in_Offer t_Offer tt_Offer n_Offer hown hK hP hD hS 11 rfl rfl 1 (by decide) (hts _ kw_54) (fun _ h9 => h9) rfl (by decide +kernel) rfl rfl (Nat.le_of_ble_eq_true rfl) d_Till_offer_67 (fun H locs hP hD hS => ?_)
    obtain ⟨ω23, eω23⟩ : ∃ z, z = va_up ω22 2 (s2 (ω22 2) 1 0 x3) := ⟨_, rfl⟩
    replace hP : va_P D CL (wTill k gX θ (gT 0) (gB 0) x_keptUnits x_planner x_plan x_receipts ++ (wBasket k gB β ++ (wTariff k gT τ (fun i => some (go i 0)) ++ (wOffer k (go 0) (ω23 0) ++ (wOffer k (go 1) (ω23 1) ++ (wOffer k (go 2) (ω23 2) ++ (wOffer k (go 3) (ω23 3) ++ (wOffer k (go 4) (ω23 4) ++ (wOffer k (go 5) (ω23 5)))))))))) H := by rw [eω23]; exact hP
    replace hD : va_D A (wTill k gX θ (gT 0) (gB 0) x_keptUnits x_planner x_plan x_receipts ++ (wBasket k gB β ++ (wTariff k gT τ (fun i => some (go i 0)) ++ (wOffer k (go 0) (ω23 0) ++ (wOffer k (go 1) (ω23 1) ++ (wOffer k (go 2) (ω23 2) ++ (wOffer k (go 3) (ω23 3) ++ (wOffer k (go 4) (ω23 4) ++ (wOffer k (go 5) (ω23 5)))))))))) := by rw [eω23]; exact hD
    replace h := h ω23 eω23
    refine lv_aload hx hb d_Till_offer_70 (lv_at hl 0 rfl) ?_
    refine lv_iload hx hb d_Till_offer_72 (lv_at hl 5 rfl) ?_
    refine va_put (D := D) (ci := 1) (v := .int x4) (ty := .int) (C := R_Offer) (T := F_Offer) (N := 6) hx hb hts in_Offer t_Offer tt_Offer n_Offer hown hK hP hD hS 11 rfl rfl 2 (by decide) (hts _ kw_55) (fun _ h9 => h9) rfl (by decide +kernel) rfl rfl (Nat.le_of_ble_eq_true rfl) d_Till_offer_74 (fun H locs hP hD hS => ?_)
    obtain ⟨ω24, eω24⟩ : ∃ z, z = va_up ω23 2 (s2 (ω23 2) 2 0 x4) := ⟨_, rfl⟩
    replace hP : va_P D CL (wTill k gX θ (gT 0) (gB 0) x_keptUnits x_planner x_plan x_receipts ++ (wBasket k gB β ++ (wTariff k gT τ (fun i => some (go i 0)) ++ (wOffer k (go 0) (ω24 0) ++ (wOffer k (go 1) (ω24 1) ++ (wOffer k (go 2) (ω24 2) ++ (wOffer k (go 3) (ω24 3) ++ (wOffer k (go 4) (ω24 4) ++ (wOffer k (go 5) (ω24 5)))))))))) H := by rw [eω24]; exact hP
    replace hD : va_D A (wTill k gX θ (gT 0) (gB 0) x_keptUnits x_planner x_plan x_receipts ++ (wBasket k gB β ++ (wTariff k gT τ (fun i => some (go i 0)) ++ (wOffer k (go 0) (ω24 0) ++ (wOffer k (go 1) (ω24 1) ++ (wOffer k (go 2) (ω24 2) ++ (wOffer k (go 3) (ω24 3) ++ (wOffer k (go 4) (ω24 4) ++ (wOffer k (go 5) (ω24 5)))))))))) := by rw [eω24]; exact hD
    replace h := h ω24 eω24
    refine lv_aload hx hb d_Till_offer_77 (lv_at hl 0 rfl) ?_
    refine lv_iload hx hb d_Till_offer_79 (lv_at hl 6 rfl) ?_
    refine va_put (D := D) (ci := 1) (v := .int x5) (ty := .int) (C := R_Offer) (T := F_Offer) (N := 6) hx hb hts in_Offer t_Offer tt_Offer n_Offer hown hK hP hD hS 11 rfl rfl 3 (by decide) (hts _ kw_58) (fun _ h9 => h9) rfl (by decide +kernel) rfl rfl (Nat.le_of_ble_eq_true rfl) d_Till_offer_81 (fun H locs hP hD hS => ?_)
    obtain ⟨ω25, eω25⟩ : ∃ z, z = va_up ω24 2 (s2 (ω24 2) 3 0 x5) := ⟨_, rfl⟩
    replace hP : va_P D CL (wTill k gX θ (gT 0) (gB 0) x_keptUnits x_planner x_plan x_receipts ++ (wBasket k gB β ++ (wTariff k gT τ (fun i => some (go i 0)) ++ (wOffer k (go 0) (ω25 0) ++ (wOffer k (go 1) (ω25 1) ++ (wOffer k (go 2) (ω25 2) ++ (wOffer k (go 3) (ω25 3) ++ (wOffer k (go 4) (ω25 4) ++ (wOffer k (go 5) (ω25 5)))))))))) H := by rw [eω25]; exact hP
    replace hD : va_D A (wTill k gX θ (gT 0) (gB 0) x_keptUnits x_planner x_plan x_receipts ++ (wBasket k gB β ++ (wTariff k gT τ (fun i => some (go i 0)) ++ (wOffer k (go 0) (ω25 0) ++ (wOffer k (go 1) (ω25 1) ++ (wOffer k (go 2) (ω25 2) ++ (wOffer k (go 3) (ω25 3) ++ (wOffer k (go 4) (ω25 4) ++ (wOffer k (go 5) (ω25 5)))))))))) := by rw [eω25]; exact hD
    replace h := h ω25 eω25
    exact retX_v (u := ω25) (wf := (fun u : (Nat → St) => wTill k gX θ (gT 0) (gB 0) x_keptUnits x_planner x_plan x_receipts ++ (wBasket k gB β ++ (wTariff k gT τ (fun i => some (go i 0)) ++ (wOffer k (go 0) (u 0) ++ (wOffer k (go 1) (u 1) ++ (wOffer k (go 2) (u 2) ++ (wOffer k (go 3) (u 3) ++ (wOffer k (go 4) (u 4) ++ (wOffer k (go 5) (u 5))))))))))) C hP hD hS (Nat.le_of_ble_eq_true rfl) (Nat.le_of_ble_eq_true rfl) ⟨rfl, h⟩ d_Till_offer_84
  · subst e9
    try simp only [show (nI 3).toNatClampNeg = 3 from rfl] at h
    refine W.eq (g2 := F0 m 56 ls [.ref ((go 3) 0)]) rfl ?_
    refine lv_astore (lv' := [(6, .ref ((go 3) 0)), (0, .ref (gX 0)), (1, .int (nI 3)), (2, .int x2), (3, .int x3), (4, .int x4), (5, .int x5)]) hx hb d_Till_offer_56 hl (by decide) rfl (fun ls hl => ?_)
    refine lv_aload hx hb d_Till_offer_58 (lv_at hl 0 rfl) ?_
    refine lv_iload_n hx hb d_Till_offer_60 rfl (lv_at hl 3 rfl) ?_
    refine va_put (D := D) (ci := 1) (v := .int x2) (ty := .int) (C := R_Offer) (T := F_Offer) (N := 6) hx hb hts in_Offer t_Offer tt_Offer n_Offer hown hK hP hD hS 13 rfl rfl 0 (by decide) (hts _ kw_51) (fun _ h9 => h9) rfl (by decide +kernel) rfl rfl (Nat.le_of_ble_eq_true rfl) d_Till_offer_61 (fun H locs hP hD hS => ?_)
    obtain ⟨ω22, eω22⟩ : ∃ z, z = va_up ω 3 (s2 (ω 3) 0 0 x2) := ⟨_, rfl⟩
    replace hP : va_P D CL (wTill k gX θ (gT 0) (gB 0) x_keptUnits x_planner x_plan x_receipts ++ (wBasket k gB β ++ (wTariff k gT τ (fun i => some (go i 0)) ++ (wOffer k (go 0) (ω22 0) ++ (wOffer k (go 1) (ω22 1) ++ (wOffer k (go 2) (ω22 2) ++ (wOffer k (go 3) (ω22 3) ++ (wOffer k (go 4) (ω22 4) ++ (wOffer k (go 5) (ω22 5)))))))))) H := by rw [eω22]; exact hP
    replace hD : va_D A (wTill k gX θ (gT 0) (gB 0) x_keptUnits x_planner x_plan x_receipts ++ (wBasket k gB β ++ (wTariff k gT τ (fun i => some (go i 0)) ++ (wOffer k (go 0) (ω22 0) ++ (wOffer k (go 1) (ω22 1) ++ (wOffer k (go 2) (ω22 2) ++ (wOffer k (go 3) (ω22 3) ++ (wOffer k (go 4) (ω22 4) ++ (wOffer k (go 5) (ω22 5)))))))))) := by rw [eω22]; exact hD
    replace h := h ω22 eω22
    refine lv_aload hx hb d_Till_offer_64 (lv_at hl 0 rfl) ?_
    refine lv_iload_n hx hb d_Till_offer_66 rfl (lv_at hl 4 rfl) ?_
    refine va_put (D := D) (ci := 1) (v := .int x3) (ty := .int) (C := R_Offer) (T := F_Offer) (N := 6) hx hb hts in_Offer t_Offer tt_Offer n_Offer hown hK hP hD hS 13 rfl rfl 1 (by decide) (hts _ kw_54) (fun _ h9 => h9) rfl (by decide +kernel) rfl rfl (Nat.le_of_ble_eq_true rfl) d_Till_offer_67 (fun H locs hP hD hS => ?_)
    obtain ⟨ω23, eω23⟩ : ∃ z, z = va_up ω22 3 (s2 (ω22 3) 1 0 x3) := ⟨_, rfl⟩
    replace hP : va_P D CL (wTill k gX θ (gT 0) (gB 0) x_keptUnits x_planner x_plan x_receipts ++ (wBasket k gB β ++ (wTariff k gT τ (fun i => some (go i 0)) ++ (wOffer k (go 0) (ω23 0) ++ (wOffer k (go 1) (ω23 1) ++ (wOffer k (go 2) (ω23 2) ++ (wOffer k (go 3) (ω23 3) ++ (wOffer k (go 4) (ω23 4) ++ (wOffer k (go 5) (ω23 5)))))))))) H := by rw [eω23]; exact hP
    replace hD : va_D A (wTill k gX θ (gT 0) (gB 0) x_keptUnits x_planner x_plan x_receipts ++ (wBasket k gB β ++ (wTariff k gT τ (fun i => some (go i 0)) ++ (wOffer k (go 0) (ω23 0) ++ (wOffer k (go 1) (ω23 1) ++ (wOffer k (go 2) (ω23 2) ++ (wOffer k (go 3) (ω23 3) ++ (wOffer k (go 4) (ω23 4) ++ (wOffer k (go 5) (ω23 5)))))))))) := by rw [eω23]; exact hD
    replace h := h ω23 eω23
    refine lv_aload hx hb d_Till_offer_70 (lv_at hl 0 rfl) ?_
    refine lv_iload hx hb d_Till_offer_72 (lv_at hl 5 rfl) ?_
    refine va_put (D := D) (ci := 1) (v := .int x4) (ty := .int) (C := R_Offer) (T := F_Offer) (N := 6) hx hb hts in_Offer t_Offer tt_Offer n_Offer hown hK hP hD hS 13 rfl rfl 2 (by decide) (hts _ kw_55) (fun _ h9 => h9) rfl (by decide +kernel) rfl rfl (Nat.le_of_ble_eq_true rfl) d_Till_offer_74 (fun H locs hP hD hS => ?_)
    obtain ⟨ω24, eω24⟩ : ∃ z, z = va_up ω23 3 (s2 (ω23 3) 2 0 x4) := ⟨_, rfl⟩
    replace hP : va_P D CL (wTill k gX θ (gT 0) (gB 0) x_keptUnits x_planner x_plan x_receipts ++ (wBasket k gB β ++ (wTariff k gT τ (fun i => some (go i 0)) ++ (wOffer k (go 0) (ω24 0) ++ (wOffer k (go 1) (ω24 1) ++ (wOffer k (go 2) (ω24 2) ++ (wOffer k (go 3) (ω24 3) ++ (wOffer k (go 4) (ω24 4) ++ (wOffer k (go 5) (ω24 5)))))))))) H := by rw [eω24]; exact hP
    replace hD : va_D A (wTill k gX θ (gT 0) (gB 0) x_keptUnits x_planner x_plan x_receipts ++ (wBasket k gB β ++ (wTariff k gT τ (fun i => some (go i 0)) ++ (wOffer k (go 0) (ω24 0) ++ (wOffer k (go 1) (ω24 1) ++ (wOffer k (go 2) (ω24 2) ++ (wOffer k (go 3) (ω24 3) ++ (wOffer k (go 4) (ω24 4) ++ (wOffer k (go 5) (ω24 5)))))))))) := by rw [eω24]; exact hD
    replace h := h ω24 eω24
    refine lv_aload hx hb d_Till_offer_77 (lv_at hl 0 rfl) ?_
    refine lv_iload hx hb d_Till_offer_79 (lv_at hl 6 rfl) ?_
    refine va_put (D := D) (ci := 1) (v := .int x5) (ty := .int) (C := R_Offer) (T := F_Offer) (N := 6) hx hb hts in_Offer t_Offer tt_Offer n_Offer hown hK hP hD hS 13 rfl rfl 3 (by decide) (hts _ kw_58) (fun _ h9 => h9) rfl (by decide +kernel) rfl rfl (Nat.le_of_ble_eq_true rfl) d_Till_offer_81 (fun H locs hP hD hS => ?_)
    obtain ⟨ω25, eω25⟩ : ∃ z, z = va_up ω24 3 (s2 (ω24 3) 3 0 x5) := ⟨_, rfl⟩
    replace hP : va_P D CL (wTill k gX θ (gT 0) (gB 0) x_keptUnits x_planner x_plan x_receipts ++ (wBasket k gB β ++ (wTariff k gT τ (fun i => some (go i 0)) ++ (wOffer k (go 0) (ω25 0) ++ (wOffer k (go 1) (ω25 1) ++ (wOffer k (go 2) (ω25 2) ++ (wOffer k (go 3) (ω25 3) ++ (wOffer k (go 4) (ω25 4) ++ (wOffer k (go 5) (ω25 5)))))))))) H := by rw [eω25]; exact hP
    replace hD : va_D A (wTill k gX θ (gT 0) (gB 0) x_keptUnits x_planner x_plan x_receipts ++ (wBasket k gB β ++ (wTariff k gT τ (fun i => some (go i 0)) ++ (wOffer k (go 0) (ω25 0) ++ (wOffer k (go 1) (ω25 1) ++ (wOffer k (go 2) (ω25 2) ++ (wOffer k (go 3) (ω25 3) ++ (wOffer k (go 4) (ω25 4) ++ (wOffer k (go 5) (ω25 5)))))))))) := by rw [eω25]; exact hD
    replace h := h ω25 eω25
    exact retX_v (u := ω25) (wf := (fun u : (Nat → St) => wTill k gX θ (gT 0) (gB 0) x_keptUnits x_planner x_plan x_receipts ++ (wBasket k gB β ++ (wTariff k gT τ (fun i => some (go i 0)) ++ (wOffer k (go 0) (u 0) ++ (wOffer k (go 1) (u 1) ++ (wOffer k (go 2) (u 2) ++ (wOffer k (go 3) (u 3) ++ (wOffer k (go 4) (u 4) ++ (wOffer k (go 5) (u 5))))))))))) C hP hD hS (Nat.le_of_ble_eq_true rfl) (Nat.le_of_ble_eq_true rfl) ⟨rfl, h⟩ d_Till_offer_84
  · subst e9
    try simp only [show (nI 4).toNatClampNeg = 4 from rfl] at h
    refine W.eq (g2 := F0 m 56 ls [.ref ((go 4) 0)]) rfl ?_
    refine lv_astore (lv' := [(6, .ref ((go 4) 0)), (0, .ref (gX 0)), (1, .int (nI 4)), (2, .int x2), (3, .int x3), (4, .int x4), (5, .int x5)]) hx hb d_Till_offer_56 hl (by decide) rfl (fun ls hl => ?_)
    refine lv_aload hx hb d_Till_offer_58 (lv_at hl 0 rfl) ?_
    refine lv_iload_n hx hb d_Till_offer_60 rfl (lv_at hl 3 rfl) ?_
    refine va_put (D := D) (ci := 1) (v := .int x2) (ty := .int) (C := R_Offer) (T := F_Offer) (N := 6) hx hb hts in_Offer t_Offer tt_Offer n_Offer hown hK hP hD hS 15 rfl rfl 0 (by decide) (hts _ kw_51) (fun _ h9 => h9) rfl (by decide +kernel) rfl rfl (Nat.le_of_ble_eq_true rfl) d_Till_offer_61 (fun H locs hP hD hS => ?_)
    obtain ⟨ω22, eω22⟩ : ∃ z, z = va_up ω 4 (s2 (ω 4) 0 0 x2) := ⟨_, rfl⟩
    replace hP : va_P D CL (wTill k gX θ (gT 0) (gB 0) x_keptUnits x_planner x_plan x_receipts ++ (wBasket k gB β ++ (wTariff k gT τ (fun i => some (go i 0)) ++ (wOffer k (go 0) (ω22 0) ++ (wOffer k (go 1) (ω22 1) ++ (wOffer k (go 2) (ω22 2) ++ (wOffer k (go 3) (ω22 3) ++ (wOffer k (go 4) (ω22 4) ++ (wOffer k (go 5) (ω22 5)))))))))) H := by rw [eω22]; exact hP
    replace hD : va_D A (wTill k gX θ (gT 0) (gB 0) x_keptUnits x_planner x_plan x_receipts ++ (wBasket k gB β ++ (wTariff k gT τ (fun i => some (go i 0)) ++ (wOffer k (go 0) (ω22 0) ++ (wOffer k (go 1) (ω22 1) ++ (wOffer k (go 2) (ω22 2) ++ (wOffer k (go 3) (ω22 3) ++ (wOffer k (go 4) (ω22 4) ++ (wOffer k (go 5) (ω22 5)))))))))) := by rw [eω22]; exact hD
    replace h := h ω22 eω22
    refine lv_aload hx hb d_Till_offer_64 (lv_at hl 0 rfl) ?_
    refine lv_iload_n hx hb d_Till_offer_66 rfl (lv_at hl 4 rfl) ?_
    refine va_put (D := D) (ci := 1) (v := .int x3) (ty := .int) (C := R_Offer) (T := F_Offer) (N := 6) hx hb hts in_Offer t_Offer tt_Offer n_Offer hown hK hP hD hS 15 rfl rfl 1 (by decide) (hts _ kw_54) (fun _ h9 => h9) rfl (by decide +kernel) rfl rfl (Nat.le_of_ble_eq_true rfl) d_Till_offer_67 (fun H locs hP hD hS => ?_)
    obtain ⟨ω23, eω23⟩ : ∃ z, z = va_up ω22 4 (s2 (ω22 4) 1 0 x3) := ⟨_, rfl⟩
    replace hP : va_P D CL (wTill k gX θ (gT 0) (gB 0) x_keptUnits x_planner x_plan x_receipts ++ (wBasket k gB β ++ (wTariff k gT τ (fun i => some (go i 0)) ++ (wOffer k (go 0) (ω23 0) ++ (wOffer k (go 1) (ω23 1) ++ (wOffer k (go 2) (ω23 2) ++ (wOffer k (go 3) (ω23 3) ++ (wOffer k (go 4) (ω23 4) ++ (wOffer k (go 5) (ω23 5)))))))))) H := by rw [eω23]; exact hP
    replace hD : va_D A (wTill k gX θ (gT 0) (gB 0) x_keptUnits x_planner x_plan x_receipts ++ (wBasket k gB β ++ (wTariff k gT τ (fun i => some (go i 0)) ++ (wOffer k (go 0) (ω23 0) ++ (wOffer k (go 1) (ω23 1) ++ (wOffer k (go 2) (ω23 2) ++ (wOffer k (go 3) (ω23 3) ++ (wOffer k (go 4) (ω23 4) ++ (wOffer k (go 5) (ω23 5)))))))))) := by rw [eω23]; exact hD
    replace h := h ω23 eω23
    refine lv_aload hx hb d_Till_offer_70 (lv_at hl 0 rfl) ?_
    refine lv_iload hx hb d_Till_offer_72 (lv_at hl 5 rfl) ?_
    refine va_put (D := D) (ci := 1) (v := .int x4) (ty := .int) (C := R_Offer) (T := F_Offer) (N := 6) hx hb hts in_Offer t_Offer tt_Offer n_Offer hown hK hP hD hS 15 rfl rfl 2 (by decide) (hts _ kw_55) (fun _ h9 => h9) rfl (by decide +kernel) rfl rfl (Nat.le_of_ble_eq_true rfl) d_Till_offer_74 (fun H locs hP hD hS => ?_)
    obtain ⟨ω24, eω24⟩ : ∃ z, z = va_up ω23 4 (s2 (ω23 4) 2 0 x4) := ⟨_, rfl⟩
    replace hP : va_P D CL (wTill k gX θ (gT 0) (gB 0) x_keptUnits x_planner x_plan x_receipts ++ (wBasket k gB β ++ (wTariff k gT τ (fun i => some (go i 0)) ++ (wOffer k (go 0) (ω24 0) ++ (wOffer k (go 1) (ω24 1) ++ (wOffer k (go 2) (ω24 2) ++ (wOffer k (go 3) (ω24 3) ++ (wOffer k (go 4) (ω24 4) ++ (wOffer k (go 5) (ω24 5)))))))))) H := by rw [eω24]; exact hP
    replace hD : va_D A (wTill k gX θ (gT 0) (gB 0) x_keptUnits x_planner x_plan x_receipts ++ (wBasket k gB β ++ (wTariff k gT τ (fun i => some (go i 0)) ++ (wOffer k (go 0) (ω24 0) ++ (wOffer k (go 1) (ω24 1) ++ (wOffer k (go 2) (ω24 2) ++ (wOffer k (go 3) (ω24 3) ++ (wOffer k (go 4) (ω24 4) ++ (wOffer k (go 5) (ω24 5)))))))))) := by rw [eω24]; exact hD
    replace h := h ω24 eω24
    refine lv_aload hx hb d_Till_offer_77 (lv_at hl 0 rfl) ?_
    refine lv_iload hx hb d_Till_offer_79 (lv_at hl 6 rfl) ?_
    refine va_put (D := D) (ci := 1) (v := .int x5) (ty := .int) (C := R_Offer) (T := F_Offer) (N := 6) hx hb hts in_Offer t_Offer tt_Offer n_Offer hown hK hP hD hS 15 rfl rfl 3 (by decide) (hts _ kw_58) (fun _ h9 => h9) rfl (by decide +kernel) rfl rfl (Nat.le_of_ble_eq_true rfl) d_Till_offer_81 (fun H locs hP hD hS => ?_)
    obtain ⟨ω25, eω25⟩ : ∃ z, z = va_up ω24 4 (s2 (ω24 4) 3 0 x5) := ⟨_, rfl⟩
    replace hP : va_P D CL (wTill k gX θ (gT 0) (gB 0) x_keptUnits x_planner x_plan x_receipts ++ (wBasket k gB β ++ (wTariff k gT τ (fun i => some (go i 0)) ++ (wOffer k (go 0) (ω25 0) ++ (wOffer k (go 1) (ω25 1) ++ (wOffer k (go 2) (ω25 2) ++ (wOffer k (go 3) (ω25 3) ++ (wOffer k (go 4) (ω25 4) ++ (wOffer k (go 5) (ω25 5)))))))))) H := by rw [eω25]; exact hP
    replace hD : va_D A (wTill k gX θ (gT 0) (gB 0) x_keptUnits x_planner x_plan x_receipts ++ (wBasket k gB β ++ (wTariff k gT τ (fun i => some (go i 0)) ++ (wOffer k (go 0) (ω25 0) ++ (wOffer k (go 1) (ω25 1) ++ (wOffer k (go 2) (ω25 2) ++ (wOffer k (go 3) (ω25 3) ++ (wOffer k (go 4) (ω25 4) ++ (wOffer k (go 5) (ω25 5)))))))))) := by rw [eω25]; exact hD
    replace h := h ω25 eω25
    exact retX_v (u := ω25) (wf := (fun u : (Nat → St) => wTill k gX θ (gT 0) (gB 0) x_keptUnits x_planner x_plan x_receipts ++ (wBasket k gB β ++ (wTariff k gT τ (fun i => some (go i 0)) ++ (wOffer k (go 0) (u 0) ++ (wOffer k (go 1) (u 1) ++ (wOffer k (go 2) (u 2) ++ (wOffer k (go 3) (u 3) ++ (wOffer k (go 4) (u 4) ++ (wOffer k (go 5) (u 5))))))))))) C hP hD hS (Nat.le_of_ble_eq_true rfl) (Nat.le_of_ble_eq_true rfl) ⟨rfl, h⟩ d_Till_offer_84
  · subst e9
    try simp only [show (nI 5).toNatClampNeg = 5 from rfl] at h
    refine W.eq (g2 := F0 m 56 ls [.ref ((go 5) 0)]) rfl ?_
    refine lv_astore (lv' := [(6, .ref ((go 5) 0)), (0, .ref (gX 0)), (1, .int (nI 5)), (2, .int x2), (3, .int x3), (4, .int x4), (5, .int x5)]) hx hb d_Till_offer_56 hl (by decide) rfl (fun ls hl => ?_)
    refine lv_aload hx hb d_Till_offer_58 (lv_at hl 0 rfl) ?_
    refine lv_iload_n hx hb d_Till_offer_60 rfl (lv_at hl 3 rfl) ?_
    refine va_put (D := D) (ci := 1) (v := .int x2) (ty := .int) (C := R_Offer) (T := F_Offer) (N := 6) hx hb hts in_Offer t_Offer tt_Offer n_Offer hown hK hP hD hS 17 rfl rfl 0 (by decide) (hts _ kw_51) (fun _ h9 => h9) rfl (by decide +kernel) rfl rfl (Nat.le_of_ble_eq_true rfl) d_Till_offer_61 (fun H locs hP hD hS => ?_)
    obtain ⟨ω22, eω22⟩ : ∃ z, z = va_up ω 5 (s2 (ω 5) 0 0 x2) := ⟨_, rfl⟩
    replace hP : va_P D CL (wTill k gX θ (gT 0) (gB 0) x_keptUnits x_planner x_plan x_receipts ++ (wBasket k gB β ++ (wTariff k gT τ (fun i => some (go i 0)) ++ (wOffer k (go 0) (ω22 0) ++ (wOffer k (go 1) (ω22 1) ++ (wOffer k (go 2) (ω22 2) ++ (wOffer k (go 3) (ω22 3) ++ (wOffer k (go 4) (ω22 4) ++ (wOffer k (go 5) (ω22 5)))))))))) H := by rw [eω22]; exact hP
    replace hD : va_D A (wTill k gX θ (gT 0) (gB 0) x_keptUnits x_planner x_plan x_receipts ++ (wBasket k gB β ++ (wTariff k gT τ (fun i => some (go i 0)) ++ (wOffer k (go 0) (ω22 0) ++ (wOffer k (go 1) (ω22 1) ++ (wOffer k (go 2) (ω22 2) ++ (wOffer k (go 3) (ω22 3) ++ (wOffer k (go 4) (ω22 4) ++ (wOffer k (go 5) (ω22 5)))))))))) := by rw [eω22]; exact hD
    replace h := h ω22 eω22
    refine lv_aload hx hb d_Till_offer_64 (lv_at hl 0 rfl) ?_
    refine lv_iload_n hx hb d_Till_offer_66 rfl (lv_at hl 4 rfl) ?_
    refine va_put (D := D) (ci := 1) (v := .int x3) (ty := .int) (C := R_Offer) (T := F_Offer) (N := 6) hx hb hts in_Offer t_Offer tt_Offer n_Offer hown hK hP hD hS 17 rfl rfl 1 (by decide) (hts _ kw_54) (fun _ h9 => h9) rfl (by decide +kernel) rfl rfl (Nat.le_of_ble_eq_true rfl) d_Till_offer_67 (fun H locs hP hD hS => ?_)
    obtain ⟨ω23, eω23⟩ : ∃ z, z = va_up ω22 5 (s2 (ω22 5) 1 0 x3) := ⟨_, rfl⟩
    replace hP : va_P D CL (wTill k gX θ (gT 0) (gB 0) x_keptUnits x_planner x_plan x_receipts ++ (wBasket k gB β ++ (wTariff k gT τ (fun i => some (go i 0)) ++ (wOffer k (go 0) (ω23 0) ++ (wOffer k (go 1) (ω23 1) ++ (wOffer k (go 2) (ω23 2) ++ (wOffer k (go 3) (ω23 3) ++ (wOffer k (go 4) (ω23 4) ++ (wOffer k (go 5) (ω23 5)))))))))) H := by rw [eω23]; exact hP
    replace hD : va_D A (wTill k gX θ (gT 0) (gB 0) x_keptUnits x_planner x_plan x_receipts ++ (wBasket k gB β ++ (wTariff k gT τ (fun i => some (go i 0)) ++ (wOffer k (go 0) (ω23 0) ++ (wOffer k (go 1) (ω23 1) ++ (wOffer k (go 2) (ω23 2) ++ (wOffer k (go 3) (ω23 3) ++ (wOffer k (go 4) (ω23 4) ++ (wOffer k (go 5) (ω23 5)))))))))) := by rw [eω23]; exact hD
    replace h := h ω23 eω23
    refine lv_aload hx hb d_Till_offer_70 (lv_at hl 0 rfl) ?_
    refine lv_iload hx hb d_Till_offer_72 (lv_at hl 5 rfl) ?_
    refine va_put (D := D) (ci := 1) (v := .int x4) (ty := .int) (C := R_Offer) (T := F_Offer) (N := 6) hx hb hts in_Offer t_Offer tt_Offer n_Offer hown hK hP hD hS 17 rfl rfl 2 (by decide) (hts _ kw_55) (fun _ h9 => h9) rfl (by decide +kernel) rfl rfl (Nat.le_of_ble_eq_true rfl) d_Till_offer_74 (fun H locs hP hD hS => ?_)
    obtain ⟨ω24, eω24⟩ : ∃ z, z = va_up ω23 5 (s2 (ω23 5) 2 0 x4) := ⟨_, rfl⟩
    replace hP : va_P D CL (wTill k gX θ (gT 0) (gB 0) x_keptUnits x_planner x_plan x_receipts ++ (wBasket k gB β ++ (wTariff k gT τ (fun i => some (go i 0)) ++ (wOffer k (go 0) (ω24 0) ++ (wOffer k (go 1) (ω24 1) ++ (wOffer k (go 2) (ω24 2) ++ (wOffer k (go 3) (ω24 3) ++ (wOffer k (go 4) (ω24 4) ++ (wOffer k (go 5) (ω24 5)))))))))) H := by rw [eω24]; exact hP
    replace hD : va_D A (wTill k gX θ (gT 0) (gB 0) x_keptUnits x_planner x_plan x_receipts ++ (wBasket k gB β ++ (wTariff k gT τ (fun i => some (go i 0)) ++ (wOffer k (go 0) (ω24 0) ++ (wOffer k (go 1) (ω24 1) ++ (wOffer k (go 2) (ω24 2) ++ (wOffer k (go 3) (ω24 3) ++ (wOffer k (go 4) (ω24 4) ++ (wOffer k (go 5) (ω24 5)))))))))) := by rw [eω24]; exact hD
    replace h := h ω24 eω24
    refine lv_aload hx hb d_Till_offer_77 (lv_at hl 0 rfl) ?_
    refine lv_iload hx hb d_Till_offer_79 (lv_at hl 6 rfl) ?_
    refine va_put (D := D) (ci := 1) (v := .int x5) (ty := .int) (C := R_Offer) (T := F_Offer) (N := 6) hx hb hts in_Offer t_Offer tt_Offer n_Offer hown hK hP hD hS 17 rfl rfl 3 (by decide) (hts _ kw_58) (fun _ h9 => h9) rfl (by decide +kernel) rfl rfl (Nat.le_of_ble_eq_true rfl) d_Till_offer_81 (fun H locs hP hD hS => ?_)
    obtain ⟨ω25, eω25⟩ : ∃ z, z = va_up ω24 5 (s2 (ω24 5) 3 0 x5) := ⟨_, rfl⟩
    replace hP : va_P D CL (wTill k gX θ (gT 0) (gB 0) x_keptUnits x_planner x_plan x_receipts ++ (wBasket k gB β ++ (wTariff k gT τ (fun i => some (go i 0)) ++ (wOffer k (go 0) (ω25 0) ++ (wOffer k (go 1) (ω25 1) ++ (wOffer k (go 2) (ω25 2) ++ (wOffer k (go 3) (ω25 3) ++ (wOffer k (go 4) (ω25 4) ++ (wOffer k (go 5) (ω25 5)))))))))) H := by rw [eω25]; exact hP
    replace hD : va_D A (wTill k gX θ (gT 0) (gB 0) x_keptUnits x_planner x_plan x_receipts ++ (wBasket k gB β ++ (wTariff k gT τ (fun i => some (go i 0)) ++ (wOffer k (go 0) (ω25 0) ++ (wOffer k (go 1) (ω25 1) ++ (wOffer k (go 2) (ω25 2) ++ (wOffer k (go 3) (ω25 3) ++ (wOffer k (go 4) (ω25 4) ++ (wOffer k (go 5) (ω25 5)))))))))) := by rw [eω25]; exact hD
    replace h := h ω25 eω25
    exact retX_v (u := ω25) (wf := (fun u : (Nat → St) => wTill k gX θ (gT 0) (gB 0) x_keptUnits x_planner x_plan x_receipts ++ (wBasket k gB β ++ (wTariff k gT τ (fun i => some (go i 0)) ++ (wOffer k (go 0) (u 0) ++ (wOffer k (go 1) (u 1) ++ (wOffer k (go 2) (u 2) ++ (wOffer k (go 3) (u 3) ++ (wOffer k (go 4) (u 4) ++ (wOffer k (go 5) (u 5))))))))))) C hP hD hS (Nat.le_of_ble_eq_true rfl) (Nat.le_of_ble_eq_true rfl) ⟨rfl, h⟩ d_Till_offer_84
set_option maxHeartbeats 4000000 in
set_option maxRecDepth 100000 in
theorem m_Till_member {l : Launch} {D : va_G} {k : Nat → ClassId} (hlt : l.stackTraces = false) (N : Nat) (gX : Nat → Nat) (gB : Nat → Nat) (gT : Nat → Nat) (go : Nat → Nat → Nat) (x_keptUnits : Nat) (x_planner : Nat) (x_plan : Nat) (x_receipts : Nat) (θ : St) (β : St) (τ : St) (ω : Nat → St) (x1 : Int32) (x2 : Int32) (x3 : Int32) (x4 : Int32) (post : ((Nat → St)) → Prop) (xp : String → ((Nat → St)) → Prop) (h : wp_Till_member N  θ β τ ω x1 x2 x3 x4 post xp) : CX l D k y_Till_member b_Till_member 5 none rm_Till_member [.ref (gX 0), .int x1, .int x2, .int x3, .int x4] (wTill k gX θ (gT 0) (gB 0) x_keptUnits x_planner x_plan x_receipts ++ (wBasket k gB β ++ (wTariff k gT τ (fun i => some (go i 0)) ++ (wOffer k (go 0) (ω 0) ++ (wOffer k (go 1) (ω 1) ++ (wOffer k (go 2) (ω 2) ++ (wOffer k (go 3) (ω 3) ++ (wOffer k (go 4) (ω 4) ++ (wOffer k (go 5) (ω 5)))))))))) (fun u : (Nat → St) => wTill k gX θ (gT 0) (gB 0) x_keptUnits x_planner x_plan x_receipts ++ (wBasket k gB β ++ (wTariff k gT τ (fun i => some (go i 0)) ++ (wOffer k (go 0) (u 0) ++ (wOffer k (go 1) (u 1) ++ (wOffer k (go 2) (u 2) ++ (wOffer k (go 3) (u 3) ++ (wOffer k (go 4) (u 4) ++ (wOffer k (go 5) (u 5)))))))))) (fun v (u : (Nat → St)) => v = none ∧ post u) xp := by
  refine CX.of (by decide) (Nat.le_of_ble_eq_true rfl) ?_
  intro p e s m below meth c A H locs ls C hX hcx hP hD hS hl
  obtain ⟨hx, hb, hr, hlk, hml, hown, hts, hK, hA⟩ := id C
  obtain ⟨t9, hZ9, hT9, hE9⟩ := id hX.2
  replace hl : lv_has ls 5 [(0, .ref (gX 0)), (1, .int x1), (2, .int x2), (3, .int x3), (4, .int x4)] := hl
  unfold wp_Till_member at h
  refine lv_iload_n hx hb d_Till_member_0 rfl (lv_at hl 1 rfl) ?_
  refine callXS (As := [.int x1]) (rest := []) C hX hS (Jn.none (S := Unit) hP hD hS hA) (m_Till_requireOffer hlt N   x1  _ _ h) kw_381 kw_382 kw_1 kw_383 (hd_Till_requireOffer).2 rfl ⟨Nat.le_of_ble_eq_true rfl, Nat.le_of_ble_eq_true rfl⟩ ⟨Nat.le_of_ble_eq_true rfl, Nat.le_of_ble_eq_true rfl⟩ hl.1 (Nat.le_of_ble_eq_true rfl) d_Till_member_1 (fun v9 u1 H locs h hP hD hS => ?_) (fun q9 E9 u9 ce9 H locs h hP hD hS hce9 hcv9 hcl9 => ?_)
  rotate_left
  · exact outX (u := ω) (wf := (fun u : (Nat → St) => wTill k gX θ (gT 0) (gB 0) x_keptUnits x_planner x_plan x_receipts ++ (wBasket k gB β ++ (wTariff k gT τ (fun i => some (go i 0)) ++ (wOffer k (go 0) (u 0) ++ (wOffer k (go 1) (u 1) ++ (wOffer k (go 2) (u 2) ++ (wOffer k (go 3) (u 3) ++ (wOffer k (go 4) (u 4) ++ (wOffer k (go 5) (u 5))))))))))) C hcx hP hD hS hce9 hcv9 hcl9 (Nat.le_of_ble_eq_true rfl) (Nat.le_of_ble_eq_true rfl) h
  obtain ⟨rfl, h⟩ := h
  refine W.eq (g2 := F0 m 4 ls []) rfl ?_
  replace hP : va_P D CL (wTill k gX θ (gT 0) (gB 0) x_keptUnits x_planner x_plan x_receipts ++ (wBasket k gB β ++ (wTariff k gT τ (fun i => some (go i 0)) ++ (wOffer k (go 0) (ω 0) ++ (wOffer k (go 1) (ω 1) ++ (wOffer k (go 2) (ω 2) ++ (wOffer k (go 3) (ω 3) ++ (wOffer k (go 4) (ω 4) ++ (wOffer k (go 5) (ω 5)))))))))) H := hP
  replace hD : va_D A (wTill k gX θ (gT 0) (gB 0) x_keptUnits x_planner x_plan x_receipts ++ (wBasket k gB β ++ (wTariff k gT τ (fun i => some (go i 0)) ++ (wOffer k (go 0) (ω 0) ++ (wOffer k (go 1) (ω 1) ++ (wOffer k (go 2) (ω 2) ++ (wOffer k (go 3) (ω 3) ++ (wOffer k (go 4) (ω 4) ++ (wOffer k (go 5) (ω 5)))))))))) := hD
  try dsimp only at h
  refine lv_iload_n hx hb d_Till_member_4 rfl (lv_at hl 2 rfl) ?_
  refine lv_iconst (v := 0) hx hb d_Till_member_5 (by decide) ?_
  refine lv_iconst (v := 3) hx hb d_Till_member_6 (by decide) ?_
  refine none_i C hP hD hS (runS (As := [.int x2, .int 0, .int 3]) (rest := []) C nilP nilD (m_Till_within N   x2 0 3  _ h H.size) kw_276 kw_277 kw_1 kw_278 (hd_Till_within).2 ⟨Nat.le_of_ble_eq_true rfl, Nat.le_of_ble_eq_true rfl⟩ ⟨Nat.le_of_ble_eq_true rfl, Nat.le_of_ble_eq_true rfl⟩ rfl hl.1 (Nat.le_of_ble_eq_true rfl) d_Till_member_7) (fun r4 u3 H locs h hP hD hS => ?_)
  try dsimp only at h
  refine callXS (As := [.int r4]) (rest := []) C hX hS (Jn.none (S := Unit) hP hD hS hA) (m_Till_requireArgument hlt N   r4  _ _ h) kw_279 kw_280 kw_1 kw_281 (hd_Till_requireArgument).2 rfl ⟨Nat.le_of_ble_eq_true rfl, Nat.le_of_ble_eq_true rfl⟩ ⟨Nat.le_of_ble_eq_true rfl, Nat.le_of_ble_eq_true rfl⟩ hl.1 (Nat.le_of_ble_eq_true rfl) d_Till_member_10 (fun v9 u5 H locs h hP hD hS => ?_) (fun q9 E9 u9 ce9 H locs h hP hD hS hce9 hcv9 hcl9 => ?_)
  rotate_left
  · exact outX (u := ω) (wf := (fun u : (Nat → St) => wTill k gX θ (gT 0) (gB 0) x_keptUnits x_planner x_plan x_receipts ++ (wBasket k gB β ++ (wTariff k gT τ (fun i => some (go i 0)) ++ (wOffer k (go 0) (u 0) ++ (wOffer k (go 1) (u 1) ++ (wOffer k (go 2) (u 2) ++ (wOffer k (go 3) (u 3) ++ (wOffer k (go 4) (u 4) ++ (wOffer k (go 5) (u 5))))))))))) C hcx hP hD hS hce9 hcv9 hcl9 (Nat.le_of_ble_eq_true rfl) (Nat.le_of_ble_eq_true rfl) h
  obtain ⟨rfl, h⟩ := h
  refine W.eq (g2 := F0 m 13 ls []) rfl ?_
  replace hP : va_P D CL (wTill k gX θ (gT 0) (gB 0) x_keptUnits x_planner x_plan x_receipts ++ (wBasket k gB β ++ (wTariff k gT τ (fun i => some (go i 0)) ++ (wOffer k (go 0) (ω 0) ++ (wOffer k (go 1) (ω 1) ++ (wOffer k (go 2) (ω 2) ++ (wOffer k (go 3) (ω 3) ++ (wOffer k (go 4) (ω 4) ++ (wOffer k (go 5) (ω 5)))))))))) H := hP
  replace hD : va_D A (wTill k gX θ (gT 0) (gB 0) x_keptUnits x_planner x_plan x_receipts ++ (wBasket k gB β ++ (wTariff k gT τ (fun i => some (go i 0)) ++ (wOffer k (go 0) (ω 0) ++ (wOffer k (go 1) (ω 1) ++ (wOffer k (go 2) (ω 2) ++ (wOffer k (go 3) (ω 3) ++ (wOffer k (go 4) (ω 4) ++ (wOffer k (go 5) (ω 5)))))))))) := hD
  try dsimp only at h
  refine lv_iload_n hx hb d_Till_member_13 rfl (lv_at hl 3 rfl) ?_
  refine callXS (As := [.int x3]) (rest := []) C hX hS (Jn.none (S := Unit) hP hD hS hA) (m_Till_requireArticle hlt N   x3  _ _ h) kw_273 kw_274 kw_1 kw_275 (hd_Till_requireArticle).2 rfl ⟨Nat.le_of_ble_eq_true rfl, Nat.le_of_ble_eq_true rfl⟩ ⟨Nat.le_of_ble_eq_true rfl, Nat.le_of_ble_eq_true rfl⟩ hl.1 (Nat.le_of_ble_eq_true rfl) d_Till_member_14 (fun v9 u7 H locs h hP hD hS => ?_) (fun q9 E9 u9 ce9 H locs h hP hD hS hce9 hcv9 hcl9 => ?_)
  rotate_left
  · exact outX (u := ω) (wf := (fun u : (Nat → St) => wTill k gX θ (gT 0) (gB 0) x_keptUnits x_planner x_plan x_receipts ++ (wBasket k gB β ++ (wTariff k gT τ (fun i => some (go i 0)) ++ (wOffer k (go 0) (u 0) ++ (wOffer k (go 1) (u 1) ++ (wOffer k (go 2) (u 2) ++ (wOffer k (go 3) (u 3) ++ (wOffer k (go 4) (u 4) ++ (wOffer k (go 5) (u 5))))))))))) C hcx hP hD hS hce9 hcv9 hcl9 (Nat.le_of_ble_eq_true rfl) (Nat.le_of_ble_eq_true rfl) h
  obtain ⟨rfl, h⟩ := h
  refine W.eq (g2 := F0 m 17 ls []) rfl ?_
  replace hP : va_P D CL (wTill k gX θ (gT 0) (gB 0) x_keptUnits x_planner x_plan x_receipts ++ (wBasket k gB β ++ (wTariff k gT τ (fun i => some (go i 0)) ++ (wOffer k (go 0) (ω 0) ++ (wOffer k (go 1) (ω 1) ++ (wOffer k (go 2) (ω 2) ++ (wOffer k (go 3) (ω 3) ++ (wOffer k (go 4) (ω 4) ++ (wOffer k (go 5) (ω 5)))))))))) H := hP
  replace hD : va_D A (wTill k gX θ (gT 0) (gB 0) x_keptUnits x_planner x_plan x_receipts ++ (wBasket k gB β ++ (wTariff k gT τ (fun i => some (go i 0)) ++ (wOffer k (go 0) (ω 0) ++ (wOffer k (go 1) (ω 1) ++ (wOffer k (go 2) (ω 2) ++ (wOffer k (go 3) (ω 3) ++ (wOffer k (go 4) (ω 4) ++ (wOffer k (go 5) (ω 5)))))))))) := hD
  try dsimp only at h
  refine lv_aload_n hx hb d_Till_member_17 rfl (lv_at hl 0 rfl) ?_
  refine callXV (As := []) (rest := []) C hX hS (Jn.part (wr := [(gT 0, .inr (5, [.ref (gT 1), .ref (gT 2)])), (gT 1, .inl (k 0, 12, .inl (τ 0))), (gT 2, .inl (k 3, 6, .inr (.inr (.inr (.inr (fun i => some (go i 0))))))), ((go 0) 0, .inr (1, [.int ((ω 0) 0 0), .int ((ω 0) 1 0), .int ((ω 0) 2 0), .int ((ω 0) 3 0), .int ((ω 0) 4 0), .ref ((go 0) 1)])), ((go 0) 1, .inl (k 0, 4, .inl ((ω 0) 5))), ((go 1) 0, .inr (1, [.int ((ω 1) 0 0), .int ((ω 1) 1 0), .int ((ω 1) 2 0), .int ((ω 1) 3 0), .int ((ω 1) 4 0), .ref ((go 1) 1)])), ((go 1) 1, .inl (k 0, 4, .inl ((ω 1) 5))), ((go 2) 0, .inr (1, [.int ((ω 2) 0 0), .int ((ω 2) 1 0), .int ((ω 2) 2 0), .int ((ω 2) 3 0), .int ((ω 2) 4 0), .ref ((go 2) 1)])), ((go 2) 1, .inl (k 0, 4, .inl ((ω 2) 5))), ((go 3) 0, .inr (1, [.int ((ω 3) 0 0), .int ((ω 3) 1 0), .int ((ω 3) 2 0), .int ((ω 3) 3 0), .int ((ω 3) 4 0), .ref ((go 3) 1)])), ((go 3) 1, .inl (k 0, 4, .inl ((ω 3) 5))), ((go 4) 0, .inr (1, [.int ((ω 4) 0 0), .int ((ω 4) 1 0), .int ((ω 4) 2 0), .int ((ω 4) 3 0), .int ((ω 4) 4 0), .ref ((go 4) 1)])), ((go 4) 1, .inl (k 0, 4, .inl ((ω 4) 5))), ((go 5) 0, .inr (1, [.int ((ω 5) 0 0), .int ((ω 5) 1 0), .int ((ω 5) 2 0), .int ((ω 5) 3 0), .int ((ω 5) 4 0), .ref ((go 5) 1)])), ((go 5) 1, .inl (k 0, 4, .inl ((ω 5) 5)))]) (wn := (fun u9 : Unit => wTill k gX θ (gT 0) (gB 0) x_keptUnits x_planner x_plan x_receipts ++ (wBasket k gB β ++ (wTariff k gT τ (fun i => some (go i 0)) ++ (wOffer k (go 0) (ω 0) ++ (wOffer k (go 1) (ω 1) ++ (wOffer k (go 2) (ω 2) ++ (wOffer k (go 3) (ω 3) ++ (wOffer k (go 4) (ω 4) ++ (wOffer k (go 5) (ω 5))))))))))) hP hD hS hA [0, 1, 2, 3] [4, 5, 6, 7, 8, 9, 10, 11, 12, 13, 14, 15, 16, 17, 18] [15, 16, 17, 18, 0, 1, 2, 3, 4, 5, 6, 7, 8, 9, 10, 11, 12, 13, 14] rfl (by decide) rfl (by decide) (by decide) (fun _ => rfl) (by decide)) (m_Till_requireEmptyBasket hlt N gX gB (gT 0) x_keptUnits x_planner x_plan x_receipts θ β   _ _ h) kw_354 kw_356 kp_1 kw_1 kw_357 hd_Till_requireEmptyBasket 0 rfl rfl rfl rfl ⟨Nat.le_of_ble_eq_true rfl, Nat.le_of_ble_eq_true rfl⟩ ⟨Nat.le_of_ble_eq_true rfl, Nat.le_of_ble_eq_true rfl⟩ hl.1 (Nat.le_of_ble_eq_true rfl) d_Till_member_18 (fun v9 u9 H locs h hP hD hS => ?_) (fun q9 E9 u9 ce9 H locs h hP hD hS hce9 hcv9 hcl9 => ?_)
  rotate_left
  · exact outX (u := ω) (wf := (fun u : (Nat → St) => wTill k gX θ (gT 0) (gB 0) x_keptUnits x_planner x_plan x_receipts ++ (wBasket k gB β ++ (wTariff k gT τ (fun i => some (go i 0)) ++ (wOffer k (go 0) (u 0) ++ (wOffer k (go 1) (u 1) ++ (wOffer k (go 2) (u 2) ++ (wOffer k (go 3) (u 3) ++ (wOffer k (go 4) (u 4) ++ (wOffer k (go 5) (u 5))))))))))) C hcx hP hD hS hce9 hcv9 hcl9 (Nat.le_of_ble_eq_true rfl) (Nat.le_of_ble_eq_true rfl) h
  obtain ⟨rfl, h⟩ := h
  refine W.eq (g2 := F0 m 21 ls []) rfl ?_
  replace hP : va_P D CL (wTill k gX θ (gT 0) (gB 0) x_keptUnits x_planner x_plan x_receipts ++ (wBasket k gB β ++ (wTariff k gT τ (fun i => some (go i 0)) ++ (wOffer k (go 0) (ω 0) ++ (wOffer k (go 1) (ω 1) ++ (wOffer k (go 2) (ω 2) ++ (wOffer k (go 3) (ω 3) ++ (wOffer k (go 4) (ω 4) ++ (wOffer k (go 5) (ω 5)))))))))) H := hP
  replace hD : va_D A (wTill k gX θ (gT 0) (gB 0) x_keptUnits x_planner x_plan x_receipts ++ (wBasket k gB β ++ (wTariff k gT τ (fun i => some (go i 0)) ++ (wOffer k (go 0) (ω 0) ++ (wOffer k (go 1) (ω 1) ++ (wOffer k (go 2) (ω 2) ++ (wOffer k (go 3) (ω 3) ++ (wOffer k (go 4) (ω 4) ++ (wOffer k (go 5) (ω 5)))))))))) := hD
  try dsimp only at h
  refine lv_aload_n hx hb d_Till_member_21 rfl (lv_at hl 0 rfl) ?_
  refine va_get (D := D) (ci := 7) (v := .ref (gT 0)) (C := R_Till) (T := F_Till) (N := 9) hx hb hts in_Till hown hK hP 0 rfl rfl 0 (by decide) (hts _ kw_236) (fun _ h9 => h9) rfl d_Till_member_22 ?_
  refine va_get (D := D) (ci := 5) (v := .ref (gT 2)) (C := R_Tariff) (T := F_Tariff) (N := 2) hx hb hts in_Tariff hown hK hP 4 rfl rfl 1 (by decide) (hts _ kw_89) (fun _ h9 => h9) rfl d_Till_member_25 ?_
  refine lv_iload_n hx hb d_Till_member_28 rfl (lv_at hl 1 rfl) ?_
  obtain ⟨hi11, h⟩ := h
  refine va_aldq hx hb hK hP 6 3 rfl rfl hi11 d_Till_member_29 ?_
  obtain ⟨i9, hi9, e9⟩ := vp_in_of hi11 (by decide)
  rcases (show i9 = 0 ∨ i9 = 1 ∨ i9 = 2 ∨ i9 = 3 ∨ i9 = 4 ∨ i9 = 5 by omega) with rfl | rfl | rfl | rfl | rfl | rfl
  · subst e9
    try simp only [show (nI 0).toNatClampNeg = 0 from rfl] at h
    refine W.eq (g2 := F0 m 30 ls [.ref ((go 0) 0)]) rfl ?_
    refine lv_iload_n hx hb d_Till_member_30 rfl (lv_at hl 2 rfl) ?_
    refine lv_iload_n hx hb d_Till_member_31 rfl (lv_at hl 3 rfl) ?_
    refine lv_iload hx hb d_Till_member_32 (lv_at hl 4 rfl) ?_
    refine call_v (wr := [(gX 0, .inr (7, [.ref (gT 0), .ref (gX 1), .ref (gB 0), .ref x_keptUnits, .ref x_planner, .ref x_plan, .ref x_receipts, .int (θ 7 0), .int (θ 8 0)])), (gX 1, .inl (k 0, 12, .inl (θ 1))), (gB 0, .inr (0, [.ref (gB 1), .int (β 1 0)])), (gB 1, .inl (k 0, 10, .inl (β 0))), (gT 0, .inr (5, [.ref (gT 1), .ref (gT 2)])), (gT 1, .inl (k 0, 12, .inl (τ 0))), (gT 2, .inl (k 3, 6, .inr (.inr (.inr (.inr (fun i => some (go i 0))))))), ((go 1) 0, .inr (1, [.int ((ω 1) 0 0), .int ((ω 1) 1 0), .int ((ω 1) 2 0), .int ((ω 1) 3 0), .int ((ω 1) 4 0), .ref ((go 1) 1)])), ((go 1) 1, .inl (k 0, 4, .inl ((ω 1) 5))), ((go 2) 0, .inr (1, [.int ((ω 2) 0 0), .int ((ω 2) 1 0), .int ((ω 2) 2 0), .int ((ω 2) 3 0), .int ((ω 2) 4 0), .ref ((go 2) 1)])), ((go 2) 1, .inl (k 0, 4, .inl ((ω 2) 5))), ((go 3) 0, .inr (1, [.int ((ω 3) 0 0), .int ((ω 3) 1 0), .int ((ω 3) 2 0), .int ((ω 3) 3 0), .int ((ω 3) 4 0), .ref ((go 3) 1)])), ((go 3) 1, .inl (k 0, 4, .inl ((ω 3) 5))), ((go 4) 0, .inr (1, [.int ((ω 4) 0 0), .int ((ω 4) 1 0), .int ((ω 4) 2 0), .int ((ω 4) 3 0), .int ((ω 4) 4 0), .ref ((go 4) 1)])), ((go 4) 1, .inl (k 0, 4, .inl ((ω 4) 5))), ((go 5) 0, .inr (1, [.int ((ω 5) 0 0), .int ((ω 5) 1 0), .int ((ω 5) 2 0), .int ((ω 5) 3 0), .int ((ω 5) 4 0), .ref ((go 5) 1)])), ((go 5) 1, .inl (k 0, 4, .inl ((ω 5) 5)))]) (wn := (fun u12 : (St) => wTill k gX θ (gT 0) (gB 0) x_keptUnits x_planner x_plan x_receipts ++ (wBasket k gB β ++ (wTariff k gT τ (fun i => some (go i 0)) ++ (wOffer k (go 0) ((va_up ω 0 u12) 0) ++ (wOffer k (go 1) ((va_up ω 0 u12) 1) ++ (wOffer k (go 2) ((va_up ω 0 u12) 2) ++ (wOffer k (go 3) ((va_up ω 0 u12) 3) ++ (wOffer k (go 4) ((va_up ω 0 u12) 4) ++ (wOffer k (go 5) ((va_up ω 0 u12) 5))))))))))) C hP hD hS [7, 8] [0, 1, 2, 3, 4, 5, 6, 9, 10, 11, 12, 13, 14, 15, 16, 17, 18] [0, 1, 2, 3, 4, 5, 6, 17, 18, 7, 8, 9, 10, 11, 12, 13, 14, 15, 16] rfl rfl (by decide) (by decide) (fun _ => rfl) (by decide) (runV (As := [.int x2, .int x3, .int x4]) (rest := []) C (hP.sub [7, 8] rfl) (hD.sub [7, 8] (by decide) rfl) (m_Offer_put N (go 0) (ω 0) x2 x3 x4  _ h H.size) kw_392 kw_393 kw_394 kw_4 kw_395 hd_Offer_put ⟨Nat.le_of_ble_eq_true rfl, Nat.le_of_ble_eq_true rfl⟩ ⟨Nat.le_of_ble_eq_true rfl, Nat.le_of_ble_eq_true rfl⟩ 0 rfl rfl rfl rfl hl.1 (Nat.le_of_ble_eq_true rfl) d_Till_member_34) (fun u12 H locs h hP hD hS => ?_)
    try dsimp only at h
    obtain ⟨ω14, eω14⟩ : ∃ z, z = va_up ω 0 u12 := ⟨_, rfl⟩
    replace hP : va_P D CL (wTill k gX θ (gT 0) (gB 0) x_keptUnits x_planner x_plan x_receipts ++ (wBasket k gB β ++ (wTariff k gT τ (fun i => some (go i 0)) ++ (wOffer k (go 0) (ω14 0) ++ (wOffer k (go 1) (ω14 1) ++ (wOffer k (go 2) (ω14 2) ++ (wOffer k (go 3) (ω14 3) ++ (wOffer k (go 4) (ω14 4) ++ (wOffer k (go 5) (ω14 5)))))))))) H := by rw [eω14]; exact hP
    replace hD : va_D A (wTill k gX θ (gT 0) (gB 0) x_keptUnits x_planner x_plan x_receipts ++ (wBasket k gB β ++ (wTariff k gT τ (fun i => some (go i 0)) ++ (wOffer k (go 0) (ω14 0) ++ (wOffer k (go 1) (ω14 1) ++ (wOffer k (go 2) (ω14 2) ++ (wOffer k (go 3) (ω14 3) ++ (wOffer k (go 4) (ω14 4) ++ (wOffer k (go 5) (ω14 5)))))))))) := by rw [eω14]; exact hD
    replace h := h ω14 eω14
    exact retX_v (u := ω14) (wf := (fun u : (Nat → St) => wTill k gX θ (gT 0) (gB 0) x_keptUnits x_planner x_plan x_receipts ++ (wBasket k gB β ++ (wTariff k gT τ (fun i => some (go i 0)) ++ (wOffer k (go 0) (u 0) ++ (wOffer k (go 1) (u 1) ++ (wOffer k (go 2) (u 2) ++ (wOffer k (go 3) (u 3) ++ (wOffer k (go 4) (u 4) ++ (wOffer k (go 5) (u 5))))))))))) C hP hD hS (Nat.le_of_ble_eq_true rfl) (Nat.le_of_ble_eq_true rfl) ⟨rfl, h⟩ d_Till_member_37
  · subst e9
    try simp only [show (nI 1).toNatClampNeg = 1 from rfl] at h
    refine W.eq (g2 := F0 m 30 ls [.ref ((go 1) 0)]) rfl ?_
    refine lv_iload_n hx hb d_Till_member_30 rfl (lv_at hl 2 rfl) ?_
    refine lv_iload_n hx hb d_Till_member_31 rfl (lv_at hl 3 rfl) ?_
    refine lv_iload hx hb d_Till_member_32 (lv_at hl 4 rfl) ?_
    refine call_v (wr := [(gX 0, .inr (7, [.ref (gT 0), .ref (gX 1), .ref (gB 0), .ref x_keptUnits, .ref x_planner, .ref x_plan, .ref x_receipts, .int (θ 7 0), .int (θ 8 0)])), (gX 1, .inl (k 0, 12, .inl (θ 1))), (gB 0, .inr (0, [.ref (gB 1), .int (β 1 0)])), (gB 1, .inl (k 0, 10, .inl (β 0))), (gT 0, .inr (5, [.ref (gT 1), .ref (gT 2)])), (gT 1, .inl (k 0, 12, .inl (τ 0))), (gT 2, .inl (k 3, 6, .inr (.inr (.inr (.inr (fun i => some (go i 0))))))), ((go 0) 0, .inr (1, [.int ((ω 0) 0 0), .int ((ω 0) 1 0), .int ((ω 0) 2 0), .int ((ω 0) 3 0), .int ((ω 0) 4 0), .ref ((go 0) 1)])), ((go 0) 1, .inl (k 0, 4, .inl ((ω 0) 5))), ((go 2) 0, .inr (1, [.int ((ω 2) 0 0), .int ((ω 2) 1 0), .int ((ω 2) 2 0), .int ((ω 2) 3 0), .int ((ω 2) 4 0), .ref ((go 2) 1)])), ((go 2) 1, .inl (k 0, 4, .inl ((ω 2) 5))), ((go 3) 0, .inr (1, [.int ((ω 3) 0 0), .int ((ω 3) 1 0), .int ((ω 3) 2 0), .int ((ω 3) 3 0), .int ((ω 3) 4 0), .ref ((go 3) 1)])), ((go 3) 1, .inl (k 0, 4, .inl ((ω 3) 5))), ((go 4) 0, .inr (1, [.int ((ω 4) 0 0), .int ((ω 4) 1 0), .int ((ω 4) 2 0), .int ((ω 4) 3 0), .int ((ω 4) 4 0), .ref ((go 4) 1)])), ((go 4) 1, .inl (k 0, 4, .inl ((ω 4) 5))), ((go 5) 0, .inr (1, [.int ((ω 5) 0 0), .int ((ω 5) 1 0), .int ((ω 5) 2 0), .int ((ω 5) 3 0), .int ((ω 5) 4 0), .ref ((go 5) 1)])), ((go 5) 1, .inl (k 0, 4, .inl ((ω 5) 5)))]) (wn := (fun u12 : (St) => wTill k gX θ (gT 0) (gB 0) x_keptUnits x_planner x_plan x_receipts ++ (wBasket k gB β ++ (wTariff k gT τ (fun i => some (go i 0)) ++ (wOffer k (go 0) ((va_up ω 1 u12) 0) ++ (wOffer k (go 1) ((va_up ω 1 u12) 1) ++ (wOffer k (go 2) ((va_up ω 1 u12) 2) ++ (wOffer k (go 3) ((va_up ω 1 u12) 3) ++ (wOffer k (go 4) ((va_up ω 1 u12) 4) ++ (wOffer k (go 5) ((va_up ω 1 u12) 5))))))))))) C hP hD hS [9, 10] [0, 1, 2, 3, 4, 5, 6, 7, 8, 11, 12, 13, 14, 15, 16, 17, 18] [0, 1, 2, 3, 4, 5, 6, 7, 8, 17, 18, 9, 10, 11, 12, 13, 14, 15, 16] rfl rfl (by decide) (by decide) (fun _ => rfl) (by decide) (runV (As := [.int x2, .int x3, .int x4]) (rest := []) C (hP.sub [9, 10] rfl) (hD.sub [9, 10] (by decide) rfl) (m_Offer_put N (go 1) (ω 1) x2 x3 x4  _ h H.size) kw_392 kw_393 kw_394 kw_4 kw_395 hd_Offer_put ⟨Nat.le_of_ble_eq_true rfl, Nat.le_of_ble_eq_true rfl⟩ ⟨Nat.le_of_ble_eq_true rfl, Nat.le_of_ble_eq_true rfl⟩ 0 rfl rfl rfl rfl hl.1 (Nat.le_of_ble_eq_true rfl) d_Till_member_34) (fun u12 H locs h hP hD hS => ?_)
    try dsimp only at h
    obtain ⟨ω14, eω14⟩ : ∃ z, z = va_up ω 1 u12 := ⟨_, rfl⟩
    replace hP : va_P D CL (wTill k gX θ (gT 0) (gB 0) x_keptUnits x_planner x_plan x_receipts ++ (wBasket k gB β ++ (wTariff k gT τ (fun i => some (go i 0)) ++ (wOffer k (go 0) (ω14 0) ++ (wOffer k (go 1) (ω14 1) ++ (wOffer k (go 2) (ω14 2) ++ (wOffer k (go 3) (ω14 3) ++ (wOffer k (go 4) (ω14 4) ++ (wOffer k (go 5) (ω14 5)))))))))) H := by rw [eω14]; exact hP
    replace hD : va_D A (wTill k gX θ (gT 0) (gB 0) x_keptUnits x_planner x_plan x_receipts ++ (wBasket k gB β ++ (wTariff k gT τ (fun i => some (go i 0)) ++ (wOffer k (go 0) (ω14 0) ++ (wOffer k (go 1) (ω14 1) ++ (wOffer k (go 2) (ω14 2) ++ (wOffer k (go 3) (ω14 3) ++ (wOffer k (go 4) (ω14 4) ++ (wOffer k (go 5) (ω14 5)))))))))) := by rw [eω14]; exact hD
    replace h := h ω14 eω14
    exact retX_v (u := ω14) (wf := (fun u : (Nat → St) => wTill k gX θ (gT 0) (gB 0) x_keptUnits x_planner x_plan x_receipts ++ (wBasket k gB β ++ (wTariff k gT τ (fun i => some (go i 0)) ++ (wOffer k (go 0) (u 0) ++ (wOffer k (go 1) (u 1) ++ (wOffer k (go 2) (u 2) ++ (wOffer k (go 3) (u 3) ++ (wOffer k (go 4) (u 4) ++ (wOffer k (go 5) (u 5))))))))))) C hP hD hS (Nat.le_of_ble_eq_true rfl) (Nat.le_of_ble_eq_true rfl) ⟨rfl, h⟩ d_Till_member_37
  · subst e9
    try simp only [show (nI 2).toNatClampNeg = 2 from rfl] at h
    refine W.eq (g2 := F0 m 30 ls [.ref ((go 2) 0)]) rfl ?_
    refine lv_iload_n hx hb d_Till_member_30 rfl (lv_at hl 2 rfl) ?_
    refine lv_iload_n hx hb d_Till_member_31 rfl (lv_at hl 3 rfl) ?_
    refine lv_iload hx hb d_Till_member_32 (lv_at hl 4 rfl) ?_
    refine call_v (wr := [(gX 0, .inr (7, [.ref (gT 0), .ref (gX 1), .ref (gB 0), .ref x_keptUnits, .ref x_planner, .ref x_plan, .ref x_receipts, .int (θ 7 0), .int (θ 8 0)])), (gX 1, .inl (k 0, 12, .inl (θ 1))), (gB 0, .inr (0, [.ref (gB 1), .int (β 1 0)])), (gB 1, .inl (k 0, 10, .inl (β 0))), (gT 0, .inr (5, [.ref (gT 1), .ref (gT 2)])), (gT 1, .inl (k 0, 12, .inl (τ 0))), (gT 2, .inl (k 3, 6, .inr (.inr (.inr (.inr (fun i => some (go i 0))))))), ((go 0) 0, .inr (1, [.int ((ω 0) 0 0), .int ((ω 0) 1 0), .int ((ω 0) 2 0), .int ((ω 0) 3 0), .int ((ω 0) 4 0), .ref ((go 0) 1)])), ((go 0) 1, .inl (k 0, 4, .inl ((ω 0) 5))), ((go 1) 0, .inr (1, [.int ((ω 1) 0 0), .int ((ω 1) 1 0), .int ((ω 1) 2 0), .int ((ω 1) 3 0), .int ((ω 1) 4 0), .ref ((go 1) 1)])), ((go 1) 1, .inl (k 0, 4, .inl ((ω 1) 5))), ((go 3) 0, .inr (1, [.int ((ω 3) 0 0), .int ((ω 3) 1 0), .int ((ω 3) 2 0), .int ((ω 3) 3 0), .int ((ω 3) 4 0), .ref ((go 3) 1)])), ((go 3) 1, .inl (k 0, 4, .inl ((ω 3) 5))), ((go 4) 0, .inr (1, [.int ((ω 4) 0 0), .int ((ω 4) 1 0), .int ((ω 4) 2 0), .int ((ω 4) 3 0), .int ((ω 4) 4 0), .ref ((go 4) 1)])), ((go 4) 1, .inl (k 0, 4, .inl ((ω 4) 5))), ((go 5) 0, .inr (1, [.int ((ω 5) 0 0), .int ((ω 5) 1 0), .int ((ω 5) 2 0), .int ((ω 5) 3 0), .int ((ω 5) 4 0), .ref ((go 5) 1)])), ((go 5) 1, .inl (k 0, 4, .inl ((ω 5) 5)))]) (wn := (fun u12 : (St) => wTill k gX θ (gT 0) (gB 0) x_keptUnits x_planner x_plan x_receipts ++ (wBasket k gB β ++ (wTariff k gT τ (fun i => some (go i 0)) ++ (wOffer k (go 0) ((va_up ω 2 u12) 0) ++ (wOffer k (go 1) ((va_up ω 2 u12) 1) ++ (wOffer k (go 2) ((va_up ω 2 u12) 2) ++ (wOffer k (go 3) ((va_up ω 2 u12) 3) ++ (wOffer k (go 4) ((va_up ω 2 u12) 4) ++ (wOffer k (go 5) ((va_up ω 2 u12) 5))))))))))) C hP hD hS [11, 12] [0, 1, 2, 3, 4, 5, 6, 7, 8, 9, 10, 13, 14, 15, 16, 17, 18] [0, 1, 2, 3, 4, 5, 6, 7, 8, 9, 10, 17, 18, 11, 12, 13, 14, 15, 16] rfl rfl (by decide) (by decide) (fun _ => rfl) (by decide) (runV (As := [.int x2, .int x3, .int x4]) (rest := []) C (hP.sub [11, 12] rfl) (hD.sub [11, 12] (by decide) rfl) (m_Offer_put N (go 2) (ω 2) x2 x3 x4  _ h H.size) kw_392 kw_393 kw_394 kw_4 kw_395 hd_Offer_put ⟨Nat.le_of_ble_eq_true rfl, Nat.le_of_ble_eq_true rfl⟩ ⟨Nat.le_of_ble_eq_true rfl, Nat.le_of_ble_eq_true rfl⟩ 0 rfl rfl rfl rfl hl.1 (Nat.le_of_ble_eq_true rfl) d_Till_member_34) (fun u12 H locs h hP hD hS => ?_)
    try dsimp only at h
    obtain ⟨ω14, eω14⟩ : ∃ z, z = va_up ω 2 u12 := ⟨_, rfl⟩
    replace hP : va_P D CL (wTill k gX θ (gT 0) (gB 0) x_keptUnits x_planner x_plan x_receipts ++ (wBasket k gB β ++ (wTariff k gT τ (fun i => some (go i 0)) ++ (wOffer k (go 0) (ω14 0) ++ (wOffer k (go 1) (ω14 1) ++ (wOffer k (go 2) (ω14 2) ++ (wOffer k (go 3) (ω14 3) ++ (wOffer k (go 4) (ω14 4) ++ (wOffer k (go 5) (ω14 5)))))))))) H := by rw [eω14]; exact hP
    replace hD : va_D A (wTill k gX θ (gT 0) (gB 0) x_keptUnits x_planner x_plan x_receipts ++ (wBasket k gB β ++ (wTariff k gT τ (fun i => some (go i 0)) ++ (wOffer k (go 0) (ω14 0) ++ (wOffer k (go 1) (ω14 1) ++ (wOffer k (go 2) (ω14 2) ++ (wOffer k (go 3) (ω14 3) ++ (wOffer k (go 4) (ω14 4) ++ (wOffer k (go 5) (ω14 5)))))))))) := by rw [eω14]; exact hD
    replace h := h ω14 eω14
    exact retX_v (u := ω14) (wf := (fun u : (Nat → St) => wTill k gX θ (gT 0) (gB 0) x_keptUnits x_planner x_plan x_receipts ++ (wBasket k gB β ++ (wTariff k gT τ (fun i => some (go i 0)) ++ (wOffer k (go 0) (u 0) ++ (wOffer k (go 1) (u 1) ++ (wOffer k (go 2) (u 2) ++ (wOffer k (go 3) (u 3) ++ (wOffer k (go 4) (u 4) ++ (wOffer k (go 5) (u 5))))))))))) C hP hD hS (Nat.le_of_ble_eq_true rfl) (Nat.le_of_ble_eq_true rfl) ⟨rfl, h⟩ d_Till_member_37
  · subst e9
    try simp only [show (nI 3).toNatClampNeg = 3 from rfl] at h
    refine W.eq (g2 := F0 m 30 ls [.ref ((go 3) 0)]) rfl ?_
    refine lv_iload_n hx hb d_Till_member_30 rfl (lv_at hl 2 rfl) ?_
    refine lv_iload_n hx hb d_Till_member_31 rfl (lv_at hl 3 rfl) ?_
    refine lv_iload hx hb d_Till_member_32 (lv_at hl 4 rfl) ?_
    refine call_v (wr := [(gX 0, .inr (7, [.ref (gT 0), .ref (gX 1), .ref (gB 0), .ref x_keptUnits, .ref x_planner, .ref x_plan, .ref x_receipts, .int (θ 7 0), .int (θ 8 0)])), (gX 1, .inl (k 0, 12, .inl (θ 1))), (gB 0, .inr (0, [.ref (gB 1), .int (β 1 0)])), (gB 1, .inl (k 0, 10, .inl (β 0))), (gT 0, .inr (5, [.ref (gT 1), .ref (gT 2)])), (gT 1, .inl (k 0, 12, .inl (τ 0))), (gT 2, .inl (k 3, 6, .inr (.inr (.inr (.inr (fun i => some (go i 0))))))), ((go 0) 0, .inr (1, [.int ((ω 0) 0 0), .int ((ω 0) 1 0), .int ((ω 0) 2 0), .int ((ω 0) 3 0), .int ((ω 0) 4 0), .ref ((go 0) 1)])), ((go 0) 1, .inl (k 0, 4, .inl ((ω 0) 5))), ((go 1) 0, .inr (1, [.int ((ω 1) 0 0), .int ((ω 1) 1 0), .int ((ω 1) 2 0), .int ((ω 1) 3 0), .int ((ω 1) 4 0), .ref ((go 1) 1)])), ((go 1) 1, .inl (k 0, 4, .inl ((ω 1) 5))), ((go 2) 0, .inr (1, [.int ((ω 2) 0 0), .int ((ω 2) 1 0), .int ((ω 2) 2 0), .int ((ω 2) 3 0), .int ((ω 2) 4 0), .ref ((go 2) 1)])), ((go 2) 1, .inl (k 0, 4, .inl ((ω 2) 5))), ((go 4) 0, .inr (1, [.int ((ω 4) 0 0), .int ((ω 4) 1 0), .int ((ω 4) 2 0), .int ((ω 4) 3 0), .int ((ω 4) 4 0), .ref ((go 4) 1)])), ((go 4) 1, .inl (k 0, 4, .inl ((ω 4) 5))), ((go 5) 0, .inr (1, [.int ((ω 5) 0 0), .int ((ω 5) 1 0), .int ((ω 5) 2 0), .int ((ω 5) 3 0), .int ((ω 5) 4 0), .ref ((go 5) 1)])), ((go 5) 1, .inl (k 0, 4, .inl ((ω 5) 5)))]) (wn := (fun u12 : (St) => wTill k gX θ (gT 0) (gB 0) x_keptUnits x_planner x_plan x_receipts ++ (wBasket k gB β ++ (wTariff k gT τ (fun i => some (go i 0)) ++ (wOffer k (go 0) ((va_up ω 3 u12) 0) ++ (wOffer k (go 1) ((va_up ω 3 u12) 1) ++ (wOffer k (go 2) ((va_up ω 3 u12) 2) ++ (wOffer k (go 3) ((va_up ω 3 u12) 3) ++ (wOffer k (go 4) ((va_up ω 3 u12) 4) ++ (wOffer k (go 5) ((va_up ω 3 u12) 5))))))))))) C hP hD hS [13, 14] [0, 1, 2, 3, 4, 5, 6, 7, 8, 9, 10, 11, 12, 15, 16, 17, 18] [0, 1, 2, 3, 4, 5, 6, 7, 8, 9, 10, 11, 12, 17, 18, 13, 14, 15, 16] rfl rfl (by decide) (by decide) (fun _ => rfl) (by decide) (runV (As := [.int x2, .int x3, .int x4]) (rest := []) C (hP.sub [13, 14] rfl) (hD.sub [13, 14] (by decide) rfl) (m_Offer_put N (go 3) (ω 3) x2 x3 x4  _ h H.size) kw_392 kw_393 kw_394 kw_4 kw_395 hd_Offer_put ⟨Nat.le_of_ble_eq_true rfl, Nat.le_of_ble_eq_true rfl⟩ ⟨Nat.le_of_ble_eq_true rfl, Nat.le_of_ble_eq_true rfl⟩ 0 rfl rfl rfl rfl hl.1 (Nat.le_of_ble_eq_true rfl) d_Till_member_34) (fun u12 H locs h hP hD hS => ?_)
    try dsimp only at h
    obtain ⟨ω14, eω14⟩ : ∃ z, z = va_up ω 3 u12 := ⟨_, rfl⟩
    replace hP : va_P D CL (wTill k gX θ (gT 0) (gB 0) x_keptUnits x_planner x_plan x_receipts ++ (wBasket k gB β ++ (wTariff k gT τ (fun i => some (go i 0)) ++ (wOffer k (go 0) (ω14 0) ++ (wOffer k (go 1) (ω14 1) ++ (wOffer k (go 2) (ω14 2) ++ (wOffer k (go 3) (ω14 3) ++ (wOffer k (go 4) (ω14 4) ++ (wOffer k (go 5) (ω14 5)))))))))) H := by rw [eω14]; exact hP
    replace hD : va_D A (wTill k gX θ (gT 0) (gB 0) x_keptUnits x_planner x_plan x_receipts ++ (wBasket k gB β ++ (wTariff k gT τ (fun i => some (go i 0)) ++ (wOffer k (go 0) (ω14 0) ++ (wOffer k (go 1) (ω14 1) ++ (wOffer k (go 2) (ω14 2) ++ (wOffer k (go 3) (ω14 3) ++ (wOffer k (go 4) (ω14 4) ++ (wOffer k (go 5) (ω14 5)))))))))) := by rw [eω14]; exact hD
    replace h := h ω14 eω14
    exact retX_v (u := ω14) (wf := (fun u : (Nat → St) => wTill k gX θ (gT 0) (gB 0) x_keptUnits x_planner x_plan x_receipts ++ (wBasket k gB β ++ (wTariff k gT τ (fun i => some (go i 0)) ++ (wOffer k (go 0) (u 0) ++ (wOffer k (go 1) (u 1) ++ (wOffer k (go 2) (u 2) ++ (wOffer k (go 3) (u 3) ++ (wOffer k (go 4) (u 4) ++ (wOffer k (go 5) (u 5))))))))))) C hP hD hS (Nat.le_of_ble_eq_true rfl) (Nat.le_of_ble_eq_true rfl) ⟨rfl, h⟩ d_Till_member_37
  · subst e9
    try simp only [show (nI 4).toNatClampNeg = 4 from rfl] at h
    refine W.eq (g2 := F0 m 30 ls [.ref ((go 4) 0)]) rfl ?_
    refine lv_iload_n hx hb d_Till_member_30 rfl (lv_at hl 2 rfl) ?_
    refine lv_iload_n hx hb d_Till_member_31 rfl (lv_at hl 3 rfl) ?_
    refine lv_iload hx hb d_Till_member_32 (lv_at hl 4 rfl) ?_
    refine call_v (wr := [(gX 0, .inr (7, [.ref (gT 0), .ref (gX 1), .ref (gB 0), .ref x_keptUnits, .ref x_planner, .ref x_plan, .ref x_receipts, .int (θ 7 0), .int (θ 8 0)])), (gX 1, .inl (k 0, 12, .inl (θ 1))), (gB 0, .inr (0, [.ref (gB 1), .int (β 1 0)])), (gB 1, .inl (k 0, 10, .inl (β 0))), (gT 0, .inr (5, [.ref (gT 1), .ref (gT 2)])), (gT 1, .inl (k 0, 12, .inl (τ 0))), (gT 2, .inl (k 3, 6, .inr (.inr (.inr (.inr (fun i => some (go i 0))))))), ((go 0) 0, .inr (1, [.int ((ω 0) 0 0), .int ((ω 0) 1 0), .int ((ω 0) 2 0), .int ((ω 0) 3 0), .int ((ω 0) 4 0), .ref ((go 0) 1)])), ((go 0) 1, .inl (k 0, 4, .inl ((ω 0) 5))), ((go 1) 0, .inr (1, [.int ((ω 1) 0 0), .int ((ω 1) 1 0), .int ((ω 1) 2 0), .int ((ω 1) 3 0), .int ((ω 1) 4 0), .ref ((go 1) 1)])), ((go 1) 1, .inl (k 0, 4, .inl ((ω 1) 5))), ((go 2) 0, .inr (1, [.int ((ω 2) 0 0), .int ((ω 2) 1 0), .int ((ω 2) 2 0), .int ((ω 2) 3 0), .int ((ω 2) 4 0), .ref ((go 2) 1)])), ((go 2) 1, .inl (k 0, 4, .inl ((ω 2) 5))), ((go 3) 0, .inr (1, [.int ((ω 3) 0 0), .int ((ω 3) 1 0), .int ((ω 3) 2 0), .int ((ω 3) 3 0), .int ((ω 3) 4 0), .ref ((go 3) 1)])), ((go 3) 1, .inl (k 0, 4, .inl ((ω 3) 5))), ((go 5) 0, .inr (1, [.int ((ω 5) 0 0), .int ((ω 5) 1 0), .int ((ω 5) 2 0), .int ((ω 5) 3 0), .int ((ω 5) 4 0), .ref ((go 5) 1)])), ((go 5) 1, .inl (k 0, 4, .inl ((ω 5) 5)))]) (wn := (fun u12 : (St) => wTill k gX θ (gT 0) (gB 0) x_keptUnits x_planner x_plan x_receipts ++ (wBasket k gB β ++ (wTariff k gT τ (fun i => some (go i 0)) ++ (wOffer k (go 0) ((va_up ω 4 u12) 0) ++ (wOffer k (go 1) ((va_up ω 4 u12) 1) ++ (wOffer k (go 2) ((va_up ω 4 u12) 2) ++ (wOffer k (go 3) ((va_up ω 4 u12) 3) ++ (wOffer k (go 4) ((va_up ω 4 u12) 4) ++ (wOffer k (go 5) ((va_up ω 4 u12) 5))))))))))) C hP hD hS [15, 16] [0, 1, 2, 3, 4, 5, 6, 7, 8, 9, 10, 11, 12, 13, 14, 17, 18] [0, 1, 2, 3, 4, 5, 6, 7, 8, 9, 10, 11, 12, 13, 14, 17, 18, 15, 16] rfl rfl (by decide) (by decide) (fun _ => rfl) (by decide) (runV (As := [.int x2, .int x3, .int x4]) (rest := []) C (hP.sub [15, 16] rfl) (hD.sub [15, 16] (by decide) rfl) (m_Offer_put N (go 4) (ω 4) x2 x3 x4  _ h H.size) kw_392 kw_393 kw_394 kw_4 kw_395 hd_Offer_put ⟨Nat.le_of_ble_eq_true rfl, Nat.le_of_ble_eq_true rfl⟩ ⟨Nat.le_of_ble_eq_true rfl, Nat.le_of_ble_eq_true rfl⟩ 0 rfl rfl rfl rfl hl.1 (Nat.le_of_ble_eq_true rfl) d_Till_member_34) (fun u12 H locs h hP hD hS => ?_)
    try dsimp only at h
    obtain ⟨ω14, eω14⟩ : ∃ z, z = va_up ω 4 u12 := ⟨_, rfl⟩
    replace hP : va_P D CL (wTill k gX θ (gT 0) (gB 0) x_keptUnits x_planner x_plan x_receipts ++ (wBasket k gB β ++ (wTariff k gT τ (fun i => some (go i 0)) ++ (wOffer k (go 0) (ω14 0) ++ (wOffer k (go 1) (ω14 1) ++ (wOffer k (go 2) (ω14 2) ++ (wOffer k (go 3) (ω14 3) ++ (wOffer k (go 4) (ω14 4) ++ (wOffer k (go 5) (ω14 5)))))))))) H := by rw [eω14]; exact hP
    replace hD : va_D A (wTill k gX θ (gT 0) (gB 0) x_keptUnits x_planner x_plan x_receipts ++ (wBasket k gB β ++ (wTariff k gT τ (fun i => some (go i 0)) ++ (wOffer k (go 0) (ω14 0) ++ (wOffer k (go 1) (ω14 1) ++ (wOffer k (go 2) (ω14 2) ++ (wOffer k (go 3) (ω14 3) ++ (wOffer k (go 4) (ω14 4) ++ (wOffer k (go 5) (ω14 5)))))))))) := by rw [eω14]; exact hD
    replace h := h ω14 eω14
    exact retX_v (u := ω14) (wf := (fun u : (Nat → St) => wTill k gX θ (gT 0) (gB 0) x_keptUnits x_planner x_plan x_receipts ++ (wBasket k gB β ++ (wTariff k gT τ (fun i => some (go i 0)) ++ (wOffer k (go 0) (u 0) ++ (wOffer k (go 1) (u 1) ++ (wOffer k (go 2) (u 2) ++ (wOffer k (go 3) (u 3) ++ (wOffer k (go 4) (u 4) ++ (wOffer k (go 5) (u 5))))))))))) C hP hD hS (Nat.le_of_ble_eq_true rfl) (Nat.le_of_ble_eq_true rfl) ⟨rfl, h⟩ d_Till_member_37
  · subst e9
    try simp only [show (nI 5).toNatClampNeg = 5 from rfl] at h
    refine W.eq (g2 := F0 m 30 ls [.ref ((go 5) 0)]) rfl ?_
    refine lv_iload_n hx hb d_Till_member_30 rfl (lv_at hl 2 rfl) ?_
    refine lv_iload_n hx hb d_Till_member_31 rfl (lv_at hl 3 rfl) ?_
    refine lv_iload hx hb d_Till_member_32 (lv_at hl 4 rfl) ?_
    refine call_v (wr := [(gX 0, .inr (7, [.ref (gT 0), .ref (gX 1), .ref (gB 0), .ref x_keptUnits, .ref x_planner, .ref x_plan, .ref x_receipts, .int (θ 7 0), .int (θ 8 0)])), (gX 1, .inl (k 0, 12, .inl (θ 1))), (gB 0, .inr (0, [.ref (gB 1), .int (β 1 0)])), (gB 1, .inl (k 0, 10, .inl (β 0))), (gT 0, .inr (5, [.ref (gT 1), .ref (gT 2)])), (gT 1, .inl (k 0, 12, .inl (τ 0))), (gT 2, .inl (k 3, 6, .inr (.inr (.inr (.inr (fun i => some (go i 0))))))), ((go 0) 0, .inr (1, [.int ((ω 0) 0 0), .int ((ω 0) 1 0), .int ((ω 0) 2 0), .int ((ω 0) 3 0), .int ((ω 0) 4 0), .ref ((go 0) 1)])), ((go 0) 1, .inl (k 0, 4, .inl ((ω 0) 5))), ((go 1) 0, .inr (1, [.int ((ω 1) 0 0), .int ((ω 1) 1 0), .int ((ω 1) 2 0), .int ((ω 1) 3 0), .int ((ω 1) 4 0), .ref ((go 1) 1)])), ((go 1) 1, .inl (k 0, 4, .inl ((ω 1) 5))), ((go 2) 0, .inr (1, [.int ((ω 2) 0 0), .int ((ω 2) 1 0), .int ((ω 2) 2 0), .int ((ω 2) 3 0), .int ((ω 2) 4 0), .ref ((go 2) 1)])), ((go 2) 1, .inl (k 0, 4, .inl ((ω 2) 5))), ((go 3) 0, .inr (1, [.int ((ω 3) 0 0), .int ((ω 3) 1 0), .int ((ω 3) 2 0), .int ((ω 3) 3 0), .int ((ω 3) 4 0), .ref ((go 3) 1)])), ((go 3) 1, .inl (k 0, 4, .inl ((ω 3) 5))), ((go 4) 0, .inr (1, [.int ((ω 4) 0 0), .int ((ω 4) 1 0), .int ((ω 4) 2 0), .int ((ω 4) 3 0), .int ((ω 4) 4 0), .ref ((go 4) 1)])), ((go 4) 1, .inl (k 0, 4, .inl ((ω 4) 5)))]) (wn := (fun u12 : (St) => wTill k gX θ (gT 0) (gB 0) x_keptUnits x_planner x_plan x_receipts ++ (wBasket k gB β ++ (wTariff k gT τ (fun i => some (go i 0)) ++ (wOffer k (go 0) ((va_up ω 5 u12) 0) ++ (wOffer k (go 1) ((va_up ω 5 u12) 1) ++ (wOffer k (go 2) ((va_up ω 5 u12) 2) ++ (wOffer k (go 3) ((va_up ω 5 u12) 3) ++ (wOffer k (go 4) ((va_up ω 5 u12) 4) ++ (wOffer k (go 5) ((va_up ω 5 u12) 5))))))))))) C hP hD hS [17, 18] [0, 1, 2, 3, 4, 5, 6, 7, 8, 9, 10, 11, 12, 13, 14, 15, 16] [0, 1, 2, 3, 4, 5, 6, 7, 8, 9, 10, 11, 12, 13, 14, 15, 16, 17, 18] rfl rfl (by decide) (by decide) (fun _ => rfl) (by decide) (runV (As := [.int x2, .int x3, .int x4]) (rest := []) C (hP.sub [17, 18] rfl) (hD.sub [17, 18] (by decide) rfl) (m_Offer_put N (go 5) (ω 5) x2 x3 x4  _ h H.size) kw_392 kw_393 kw_394 kw_4 kw_395 hd_Offer_put ⟨Nat.le_of_ble_eq_true rfl, Nat.le_of_ble_eq_true rfl⟩ ⟨Nat.le_of_ble_eq_true rfl, Nat.le_of_ble_eq_true rfl⟩ 0 rfl rfl rfl rfl hl.1 (Nat.le_of_ble_eq_true rfl) d_Till_member_34) (fun u12 H locs h hP hD hS => ?_)
    try dsimp only at h
    obtain ⟨ω14, eω14⟩ : ∃ z, z = va_up ω 5 u12 := ⟨_, rfl⟩
    replace hP : va_P D CL (wTill k gX θ (gT 0) (gB 0) x_keptUnits x_planner x_plan x_receipts ++ (wBasket k gB β ++ (wTariff k gT τ (fun i => some (go i 0)) ++ (wOffer k (go 0) (ω14 0) ++ (wOffer k (go 1) (ω14 1) ++ (wOffer k (go 2) (ω14 2) ++ (wOffer k (go 3) (ω14 3) ++ (wOffer k (go 4) (ω14 4) ++ (wOffer k (go 5) (ω14 5)))))))))) H := by rw [eω14]; exact hP
    replace hD : va_D A (wTill k gX θ (gT 0) (gB 0) x_keptUnits x_planner x_plan x_receipts ++ (wBasket k gB β ++ (wTariff k gT τ (fun i => some (go i 0)) ++ (wOffer k (go 0) (ω14 0) ++ (wOffer k (go 1) (ω14 1) ++ (wOffer k (go 2) (ω14 2) ++ (wOffer k (go 3) (ω14 3) ++ (wOffer k (go 4) (ω14 4) ++ (wOffer k (go 5) (ω14 5)))))))))) := by rw [eω14]; exact hD
    replace h := h ω14 eω14
    exact retX_v (u := ω14) (wf := (fun u : (Nat → St) => wTill k gX θ (gT 0) (gB 0) x_keptUnits x_planner x_plan x_receipts ++ (wBasket k gB β ++ (wTariff k gT τ (fun i => some (go i 0)) ++ (wOffer k (go 0) (u 0) ++ (wOffer k (go 1) (u 1) ++ (wOffer k (go 2) (u 2) ++ (wOffer k (go 3) (u 3) ++ (wOffer k (go 4) (u 4) ++ (wOffer k (go 5) (u 5))))))))))) C hP hD hS (Nat.le_of_ble_eq_true rfl) (Nat.le_of_ble_eq_true rfl) ⟨rfl, h⟩ d_Till_member_37
set_option maxHeartbeats 4000000 in
set_option maxRecDepth 100000 in
theorem m_Till_run {l : Launch} {D : va_G} {k : Nat → ClassId} (hlt : l.stackTraces = false) (N : Nat) (gX : Nat → Nat) (gB : Nat → Nat) (gT : Nat → Nat) (go : Nat → Nat → Nat) (x_keptUnits : Nat) (x_planner : Nat) (x_plan : Nat) (x_receipts : Nat) (θ : St) (β : St) (τ : St) (ω : Nat → St) (x1 : Int32) (x2 : Int32) (post : ((Nat → St)) → Prop) (xp : String → ((Nat → St)) → Prop) (h : wp_Till_run N  θ β τ ω x1 x2 post xp) : CX l D k y_Till_run b_Till_run 3 none rm_Till_run [.ref (gX 0), .int x1, .int x2] (wTill k gX θ (gT 0) (gB 0) x_keptUnits x_planner x_plan x_receipts ++ (wBasket k gB β ++ (wTariff k gT τ (fun i => some (go i 0)) ++ (wOffer k (go 0) (ω 0) ++ (wOffer k (go 1) (ω 1) ++ (wOffer k (go 2) (ω 2) ++ (wOffer k (go 3) (ω 3) ++ (wOffer k (go 4) (ω 4) ++ (wOffer k (go 5) (ω 5)))))))))) (fun u : (Nat → St) => wTill k gX θ (gT 0) (gB 0) x_keptUnits x_planner x_plan x_receipts ++ (wBasket k gB β ++ (wTariff k gT τ (fun i => some (go i 0)) ++ (wOffer k (go 0) (u 0) ++ (wOffer k (go 1) (u 1) ++ (wOffer k (go 2) (u 2) ++ (wOffer k (go 3) (u 3) ++ (wOffer k (go 4) (u 4) ++ (wOffer k (go 5) (u 5)))))))))) (fun v (u : (Nat → St)) => v = none ∧ post u) xp := by
  refine CX.of (by decide) (Nat.le_of_ble_eq_true rfl) ?_
  intro p e s m below meth c A H locs ls C hX hcx hP hD hS hl
  obtain ⟨hx, hb, hr, hlk, hml, hown, hts, hK, hA⟩ := id C
  obtain ⟨t9, hZ9, hT9, hE9⟩ := id hX.2
  replace hl : lv_has ls 3 [(0, .ref (gX 0)), (1, .int x1), (2, .int x2)] := hl
  unfold wp_Till_run at h
  refine lv_iload_n hx hb d_Till_run_0 rfl (lv_at hl 1 rfl) ?_
  refine callXS (As := [.int x1]) (rest := []) C hX hS (Jn.none (S := Unit) hP hD hS hA) (m_Till_requireOffer hlt N   x1  _ _ h) kw_381 kw_382 kw_1 kw_383 (hd_Till_requireOffer).2 rfl ⟨Nat.le_of_ble_eq_true rfl, Nat.le_of_ble_eq_true rfl⟩ ⟨Nat.le_of_ble_eq_true rfl, Nat.le_of_ble_eq_true rfl⟩ hl.1 (Nat.le_of_ble_eq_true rfl) d_Till_run_1 (fun v9 u1 H locs h hP hD hS => ?_) (fun q9 E9 u9 ce9 H locs h hP hD hS hce9 hcv9 hcl9 => ?_)
  rotate_left
  · exact outX (u := ω) (wf := (fun u : (Nat → St) => wTill k gX θ (gT 0) (gB 0) x_keptUnits x_planner x_plan x_receipts ++ (wBasket k gB β ++ (wTariff k gT τ (fun i => some (go i 0)) ++ (wOffer k (go 0) (u 0) ++ (wOffer k (go 1) (u 1) ++ (wOffer k (go 2) (u 2) ++ (wOffer k (go 3) (u 3) ++ (wOffer k (go 4) (u 4) ++ (wOffer k (go 5) (u 5))))))))))) C hcx hP hD hS hce9 hcv9 hcl9 (Nat.le_of_ble_eq_true rfl) (Nat.le_of_ble_eq_true rfl) h
  obtain ⟨rfl, h⟩ := h
  refine W.eq (g2 := F0 m 4 ls []) rfl ?_
  replace hP : va_P D CL (wTill k gX θ (gT 0) (gB 0) x_keptUnits x_planner x_plan x_receipts ++ (wBasket k gB β ++ (wTariff k gT τ (fun i => some (go i 0)) ++ (wOffer k (go 0) (ω 0) ++ (wOffer k (go 1) (ω 1) ++ (wOffer k (go 2) (ω 2) ++ (wOffer k (go 3) (ω 3) ++ (wOffer k (go 4) (ω 4) ++ (wOffer k (go 5) (ω 5)))))))))) H := hP
  replace hD : va_D A (wTill k gX θ (gT 0) (gB 0) x_keptUnits x_planner x_plan x_receipts ++ (wBasket k gB β ++ (wTariff k gT τ (fun i => some (go i 0)) ++ (wOffer k (go 0) (ω 0) ++ (wOffer k (go 1) (ω 1) ++ (wOffer k (go 2) (ω 2) ++ (wOffer k (go 3) (ω 3) ++ (wOffer k (go 4) (ω 4) ++ (wOffer k (go 5) (ω 5)))))))))) := hD
  try dsimp only at h
  refine lv_aload_n hx hb d_Till_run_4 rfl (lv_at hl 0 rfl) ?_
  refine callXV (As := []) (rest := []) C hX hS (Jn.part (wr := [(gT 0, .inr (5, [.ref (gT 1), .ref (gT 2)])), (gT 1, .inl (k 0, 12, .inl (τ 0))), (gT 2, .inl (k 3, 6, .inr (.inr (.inr (.inr (fun i => some (go i 0))))))), ((go 0) 0, .inr (1, [.int ((ω 0) 0 0), .int ((ω 0) 1 0), .int ((ω 0) 2 0), .int ((ω 0) 3 0), .int ((ω 0) 4 0), .ref ((go 0) 1)])), ((go 0) 1, .inl (k 0, 4, .inl ((ω 0) 5))), ((go 1) 0, .inr (1, [.int ((ω 1) 0 0), .int ((ω 1) 1 0), .int ((ω 1) 2 0), .int ((ω 1) 3 0), .int ((ω 1) 4 0), .ref ((go 1) 1)])), ((go 1) 1, .inl (k 0, 4, .inl ((ω 1) 5))), ((go 2) 0, .inr (1, [.int ((ω 2) 0 0), .int ((ω 2) 1 0), .int ((ω 2) 2 0), .int ((ω 2) 3 0), .int ((ω 2) 4 0), .ref ((go 2) 1)])), ((go 2) 1, .inl (k 0, 4, .inl ((ω 2) 5))), ((go 3) 0, .inr (1, [.int ((ω 3) 0 0), .int ((ω 3) 1 0), .int ((ω 3) 2 0), .int ((ω 3) 3 0), .int ((ω 3) 4 0), .ref ((go 3) 1)])), ((go 3) 1, .inl (k 0, 4, .inl ((ω 3) 5))), ((go 4) 0, .inr (1, [.int ((ω 4) 0 0), .int ((ω 4) 1 0), .int ((ω 4) 2 0), .int ((ω 4) 3 0), .int ((ω 4) 4 0), .ref ((go 4) 1)])), ((go 4) 1, .inl (k 0, 4, .inl ((ω 4) 5))), ((go 5) 0, .inr (1, [.int ((ω 5) 0 0), .int ((ω 5) 1 0), .int ((ω 5) 2 0), .int ((ω 5) 3 0), .int ((ω 5) 4 0), .ref ((go 5) 1)])), ((go 5) 1, .inl (k 0, 4, .inl ((ω 5) 5)))]) (wn := (fun u3 : Unit => wTill k gX θ (gT 0) (gB 0) x_keptUnits x_planner x_plan x_receipts ++ (wBasket k gB β ++ (wTariff k gT τ (fun i => some (go i 0)) ++ (wOffer k (go 0) (ω 0) ++ (wOffer k (go 1) (ω 1) ++ (wOffer k (go 2) (ω 2) ++ (wOffer k (go 3) (ω 3) ++ (wOffer k (go 4) (ω 4) ++ (wOffer k (go 5) (ω 5))))))))))) hP hD hS hA [0, 1, 2, 3] [4, 5, 6, 7, 8, 9, 10, 11, 12, 13, 14, 15, 16, 17, 18] [15, 16, 17, 18, 0, 1, 2, 3, 4, 5, 6, 7, 8, 9, 10, 11, 12, 13, 14] rfl (by decide) rfl (by decide) (by decide) (fun _ => rfl) (by decide)) (m_Till_requireEmptyBasket hlt N gX gB (gT 0) x_keptUnits x_planner x_plan x_receipts θ β   _ _ h) kw_354 kw_356 kp_1 kw_1 kw_357 hd_Till_requireEmptyBasket 0 rfl rfl rfl rfl ⟨Nat.le_of_ble_eq_true rfl, Nat.le_of_ble_eq_true rfl⟩ ⟨Nat.le_of_ble_eq_true rfl, Nat.le_of_ble_eq_true rfl⟩ hl.1 (Nat.le_of_ble_eq_true rfl) d_Till_run_5 (fun v9 u3 H locs h hP hD hS => ?_) (fun q9 E9 u9 ce9 H locs h hP hD hS hce9 hcv9 hcl9 => ?_)
  rotate_left
  · exact outX (u := ω) (wf := (fun u : (Nat → St) => wTill k gX θ (gT 0) (gB 0) x_keptUnits x_planner x_plan x_receipts ++ (wBasket k gB β ++ (wTariff k gT τ (fun i => some (go i 0)) ++ (wOffer k (go 0) (u 0) ++ (wOffer k (go 1) (u 1) ++ (wOffer k (go 2) (u 2) ++ (wOffer k (go 3) (u 3) ++ (wOffer k (go 4) (u 4) ++ (wOffer k (go 5) (u 5))))))))))) C hcx hP hD hS hce9 hcv9 hcl9 (Nat.le_of_ble_eq_true rfl) (Nat.le_of_ble_eq_true rfl) h
  obtain ⟨rfl, h⟩ := h
  refine W.eq (g2 := F0 m 8 ls []) rfl ?_
  replace hP : va_P D CL (wTill k gX θ (gT 0) (gB 0) x_keptUnits x_planner x_plan x_receipts ++ (wBasket k gB β ++ (wTariff k gT τ (fun i => some (go i 0)) ++ (wOffer k (go 0) (ω 0) ++ (wOffer k (go 1) (ω 1) ++ (wOffer k (go 2) (ω 2) ++ (wOffer k (go 3) (ω 3) ++ (wOffer k (go 4) (ω 4) ++ (wOffer k (go 5) (ω 5)))))))))) H := hP
  replace hD : va_D A (wTill k gX θ (gT 0) (gB 0) x_keptUnits x_planner x_plan x_receipts ++ (wBasket k gB β ++ (wTariff k gT τ (fun i => some (go i 0)) ++ (wOffer k (go 0) (ω 0) ++ (wOffer k (go 1) (ω 1) ++ (wOffer k (go 2) (ω 2) ++ (wOffer k (go 3) (ω 3) ++ (wOffer k (go 4) (ω 4) ++ (wOffer k (go 5) (ω 5)))))))))) := hD
  try dsimp only at h
  refine lv_aload_n hx hb d_Till_run_8 rfl (lv_at hl 0 rfl) ?_
  refine va_get (D := D) (ci := 7) (v := .ref (gT 0)) (C := R_Till) (T := F_Till) (N := 9) hx hb hts in_Till hown hK hP 0 rfl rfl 0 (by decide) (hts _ kw_236) (fun _ h9 => h9) rfl d_Till_run_9 ?_
  refine va_get (D := D) (ci := 5) (v := .ref (gT 2)) (C := R_Tariff) (T := F_Tariff) (N := 2) hx hb hts in_Tariff hown hK hP 4 rfl rfl 1 (by decide) (hts _ kw_89) (fun _ h9 => h9) rfl d_Till_run_12 ?_
  refine lv_iload_n hx hb d_Till_run_15 rfl (lv_at hl 1 rfl) ?_
  obtain ⟨hi5, h⟩ := h
  refine va_aldq hx hb hK hP 6 3 rfl rfl hi5 d_Till_run_16 ?_
  obtain ⟨i9, hi9, e9⟩ := vp_in_of hi5 (by decide)
  rcases (show i9 = 0 ∨ i9 = 1 ∨ i9 = 2 ∨ i9 = 3 ∨ i9 = 4 ∨ i9 = 5 by omega) with rfl | rfl | rfl | rfl | rfl | rfl
  · subst e9
    try simp only [show (nI 0).toNatClampNeg = 0 from rfl] at h
    refine W.eq (g2 := F0 m 17 ls [.ref ((go 0) 0)]) rfl ?_
    refine lv_iload_n hx hb d_Till_run_17 rfl (lv_at hl 2 rfl) ?_
    obtain ⟨hz6, h⟩ := h
    refine va_put (D := D) (ci := 1) (v := .int x2) (ty := .boolean) (C := R_Offer) (T := F_Offer) (N := 6) hx hb hts in_Offer t_Offer tt_Offer n_Offer hown hK hP hD hS 7 rfl rfl 4 (by decide) (hts _ kw_64) (fun _ h9 => h9) rfl (by decide +kernel) hz6.1 hz6.2 (Nat.le_of_ble_eq_true rfl) d_Till_run_18 (fun H locs hP hD hS => ?_)
    obtain ⟨ω7, eω7⟩ : ∃ z, z = va_up ω 0 (s2 (ω 0) 4 0 x2) := ⟨_, rfl⟩
    replace hP : va_P D CL (wTill k gX θ (gT 0) (gB 0) x_keptUnits x_planner x_plan x_receipts ++ (wBasket k gB β ++ (wTariff k gT τ (fun i => some (go i 0)) ++ (wOffer k (go 0) (ω7 0) ++ (wOffer k (go 1) (ω7 1) ++ (wOffer k (go 2) (ω7 2) ++ (wOffer k (go 3) (ω7 3) ++ (wOffer k (go 4) (ω7 4) ++ (wOffer k (go 5) (ω7 5)))))))))) H := by rw [eω7]; exact hP
    replace hD : va_D A (wTill k gX θ (gT 0) (gB 0) x_keptUnits x_planner x_plan x_receipts ++ (wBasket k gB β ++ (wTariff k gT τ (fun i => some (go i 0)) ++ (wOffer k (go 0) (ω7 0) ++ (wOffer k (go 1) (ω7 1) ++ (wOffer k (go 2) (ω7 2) ++ (wOffer k (go 3) (ω7 3) ++ (wOffer k (go 4) (ω7 4) ++ (wOffer k (go 5) (ω7 5)))))))))) := by rw [eω7]; exact hD
    replace h := h ω7 eω7
    exact retX_v (u := ω7) (wf := (fun u : (Nat → St) => wTill k gX θ (gT 0) (gB 0) x_keptUnits x_planner x_plan x_receipts ++ (wBasket k gB β ++ (wTariff k gT τ (fun i => some (go i 0)) ++ (wOffer k (go 0) (u 0) ++ (wOffer k (go 1) (u 1) ++ (wOffer k (go 2) (u 2) ++ (wOffer k (go 3) (u 3) ++ (wOffer k (go 4) (u 4) ++ (wOffer k (go 5) (u 5))))))))))) C hP hD hS (Nat.le_of_ble_eq_true rfl) (Nat.le_of_ble_eq_true rfl) ⟨rfl, h⟩ d_Till_run_21
  · subst e9
    try simp only [show (nI 1).toNatClampNeg = 1 from rfl] at h
    refine W.eq (g2 := F0 m 17 ls [.ref ((go 1) 0)]) rfl ?_
    refine lv_iload_n hx hb d_Till_run_17 rfl (lv_at hl 2 rfl) ?_
    obtain ⟨hz6, h⟩ := h
    refine va_put (D := D) (ci := 1) (v := .int x2) (ty := .boolean) (C := R_Offer) (T := F_Offer) (N := 6) hx hb hts in_Offer t_Offer tt_Offer n_Offer hown hK hP hD hS 9 rfl rfl 4 (by decide) (hts _ kw_64) (fun _ h9 => h9) rfl (by decide +kernel) hz6.1 hz6.2 (Nat.le_of_ble_eq_true rfl) d_Till_run_18 (fun H locs hP hD hS => ?_)
    obtain ⟨ω7, eω7⟩ : ∃ z, z = va_up ω 1 (s2 (ω 1) 4 0 x2) := ⟨_, rfl⟩
    replace hP : va_P D CL (wTill k gX θ (gT 0) (gB 0) x_keptUnits x_planner x_plan x_receipts ++ (wBasket k gB β ++ (wTariff k gT τ (fun i => some (go i 0)) ++ (wOffer k (go 0) (ω7 0) ++ (wOffer k (go 1) (ω7 1) ++ (wOffer k (go 2) (ω7 2) ++ (wOffer k (go 3) (ω7 3) ++ (wOffer k (go 4) (ω7 4) ++ (wOffer k (go 5) (ω7 5)))))))))) H := by rw [eω7]; exact hP
    replace hD : va_D A (wTill k gX θ (gT 0) (gB 0) x_keptUnits x_planner x_plan x_receipts ++ (wBasket k gB β ++ (wTariff k gT τ (fun i => some (go i 0)) ++ (wOffer k (go 0) (ω7 0) ++ (wOffer k (go 1) (ω7 1) ++ (wOffer k (go 2) (ω7 2) ++ (wOffer k (go 3) (ω7 3) ++ (wOffer k (go 4) (ω7 4) ++ (wOffer k (go 5) (ω7 5)))))))))) := by rw [eω7]; exact hD
    replace h := h ω7 eω7
    exact retX_v (u := ω7) (wf := (fun u : (Nat → St) => wTill k gX θ (gT 0) (gB 0) x_keptUnits x_planner x_plan x_receipts ++ (wBasket k gB β ++ (wTariff k gT τ (fun i => some (go i 0)) ++ (wOffer k (go 0) (u 0) ++ (wOffer k (go 1) (u 1) ++ (wOffer k (go 2) (u 2) ++ (wOffer k (go 3) (u 3) ++ (wOffer k (go 4) (u 4) ++ (wOffer k (go 5) (u 5))))))))))) C hP hD hS (Nat.le_of_ble_eq_true rfl) (Nat.le_of_ble_eq_true rfl) ⟨rfl, h⟩ d_Till_run_21
  · subst e9
    try simp only [show (nI 2).toNatClampNeg = 2 from rfl] at h
    refine W.eq (g2 := F0 m 17 ls [.ref ((go 2) 0)]) rfl ?_
    refine lv_iload_n hx hb d_Till_run_17 rfl (lv_at hl 2 rfl) ?_
    obtain ⟨hz6, h⟩ := h
    refine va_put (D := D) (ci := 1) (v := .int x2) (ty := .boolean) (C := R_Offer) (T := F_Offer) (N := 6) hx hb hts in_Offer t_Offer tt_Offer n_Offer hown hK hP hD hS 11 rfl rfl 4 (by decide) (hts _ kw_64) (fun _ h9 => h9) rfl (by decide +kernel) hz6.1 hz6.2 (Nat.le_of_ble_eq_true rfl) d_Till_run_18 (fun H locs hP hD hS => ?_)
    obtain ⟨ω7, eω7⟩ : ∃ z, z = va_up ω 2 (s2 (ω 2) 4 0 x2) := ⟨_, rfl⟩
    replace hP : va_P D CL (wTill k gX θ (gT 0) (gB 0) x_keptUnits x_planner x_plan x_receipts ++ (wBasket k gB β ++ (wTariff k gT τ (fun i => some (go i 0)) ++ (wOffer k (go 0) (ω7 0) ++ (wOffer k (go 1) (ω7 1) ++ (wOffer k (go 2) (ω7 2) ++ (wOffer k (go 3) (ω7 3) ++ (wOffer k (go 4) (ω7 4) ++ (wOffer k (go 5) (ω7 5)))))))))) H := by rw [eω7]; exact hP
    replace hD : va_D A (wTill k gX θ (gT 0) (gB 0) x_keptUnits x_planner x_plan x_receipts ++ (wBasket k gB β ++ (wTariff k gT τ (fun i => some (go i 0)) ++ (wOffer k (go 0) (ω7 0) ++ (wOffer k (go 1) (ω7 1) ++ (wOffer k (go 2) (ω7 2) ++ (wOffer k (go 3) (ω7 3) ++ (wOffer k (go 4) (ω7 4) ++ (wOffer k (go 5) (ω7 5)))))))))) := by rw [eω7]; exact hD
    replace h := h ω7 eω7
    exact retX_v (u := ω7) (wf := (fun u : (Nat → St) => wTill k gX θ (gT 0) (gB 0) x_keptUnits x_planner x_plan x_receipts ++ (wBasket k gB β ++ (wTariff k gT τ (fun i => some (go i 0)) ++ (wOffer k (go 0) (u 0) ++ (wOffer k (go 1) (u 1) ++ (wOffer k (go 2) (u 2) ++ (wOffer k (go 3) (u 3) ++ (wOffer k (go 4) (u 4) ++ (wOffer k (go 5) (u 5))))))))))) C hP hD hS (Nat.le_of_ble_eq_true rfl) (Nat.le_of_ble_eq_true rfl) ⟨rfl, h⟩ d_Till_run_21
  · subst e9
    try simp only [show (nI 3).toNatClampNeg = 3 from rfl] at h
    refine W.eq (g2 := F0 m 17 ls [.ref ((go 3) 0)]) rfl ?_
    refine lv_iload_n hx hb d_Till_run_17 rfl (lv_at hl 2 rfl) ?_
    obtain ⟨hz6, h⟩ := h
    refine va_put (D := D) (ci := 1) (v := .int x2) (ty := .boolean) (C := R_Offer) (T := F_Offer) (N := 6) hx hb hts in_Offer t_Offer tt_Offer n_Offer hown hK hP hD hS 13 rfl rfl 4 (by decide) (hts _ kw_64) (fun _ h9 => h9) rfl (by decide +kernel) hz6.1 hz6.2 (Nat.le_of_ble_eq_true rfl) d_Till_run_18 (fun H locs hP hD hS => ?_)
    obtain ⟨ω7, eω7⟩ : ∃ z, z = va_up ω 3 (s2 (ω 3) 4 0 x2) := ⟨_, rfl⟩
    replace hP : va_P D CL (wTill k gX θ (gT 0) (gB 0) x_keptUnits x_planner x_plan x_receipts ++ (wBasket k gB β ++ (wTariff k gT τ (fun i => some (go i 0)) ++ (wOffer k (go 0) (ω7 0) ++ (wOffer k (go 1) (ω7 1) ++ (wOffer k (go 2) (ω7 2) ++ (wOffer k (go 3) (ω7 3) ++ (wOffer k (go 4) (ω7 4) ++ (wOffer k (go 5) (ω7 5)))))))))) H := by rw [eω7]; exact hP
    replace hD : va_D A (wTill k gX θ (gT 0) (gB 0) x_keptUnits x_planner x_plan x_receipts ++ (wBasket k gB β ++ (wTariff k gT τ (fun i => some (go i 0)) ++ (wOffer k (go 0) (ω7 0) ++ (wOffer k (go 1) (ω7 1) ++ (wOffer k (go 2) (ω7 2) ++ (wOffer k (go 3) (ω7 3) ++ (wOffer k (go 4) (ω7 4) ++ (wOffer k (go 5) (ω7 5)))))))))) := by rw [eω7]; exact hD
    replace h := h ω7 eω7
    exact retX_v (u := ω7) (wf := (fun u : (Nat → St) => wTill k gX θ (gT 0) (gB 0) x_keptUnits x_planner x_plan x_receipts ++ (wBasket k gB β ++ (wTariff k gT τ (fun i => some (go i 0)) ++ (wOffer k (go 0) (u 0) ++ (wOffer k (go 1) (u 1) ++ (wOffer k (go 2) (u 2) ++ (wOffer k (go 3) (u 3) ++ (wOffer k (go 4) (u 4) ++ (wOffer k (go 5) (u 5))))))))))) C hP hD hS (Nat.le_of_ble_eq_true rfl) (Nat.le_of_ble_eq_true rfl) ⟨rfl, h⟩ d_Till_run_21
  · subst e9
    try simp only [show (nI 4).toNatClampNeg = 4 from rfl] at h
    refine W.eq (g2 := F0 m 17 ls [.ref ((go 4) 0)]) rfl ?_
    refine lv_iload_n hx hb d_Till_run_17 rfl (lv_at hl 2 rfl) ?_
    obtain ⟨hz6, h⟩ := h
    refine va_put (D := D) (ci := 1) (v := .int x2) (ty := .boolean) (C := R_Offer) (T := F_Offer) (N := 6) hx hb hts in_Offer t_Offer tt_Offer n_Offer hown hK hP hD hS 15 rfl rfl 4 (by decide) (hts _ kw_64) (fun _ h9 => h9) rfl (by decide +kernel) hz6.1 hz6.2 (Nat.le_of_ble_eq_true rfl) d_Till_run_18 (fun H locs hP hD hS => ?_)
    obtain ⟨ω7, eω7⟩ : ∃ z, z = va_up ω 4 (s2 (ω 4) 4 0 x2) := ⟨_, rfl⟩
    replace hP : va_P D CL (wTill k gX θ (gT 0) (gB 0) x_keptUnits x_planner x_plan x_receipts ++ (wBasket k gB β ++ (wTariff k gT τ (fun i => some (go i 0)) ++ (wOffer k (go 0) (ω7 0) ++ (wOffer k (go 1) (ω7 1) ++ (wOffer k (go 2) (ω7 2) ++ (wOffer k (go 3) (ω7 3) ++ (wOffer k (go 4) (ω7 4) ++ (wOffer k (go 5) (ω7 5)))))))))) H := by rw [eω7]; exact hP
    replace hD : va_D A (wTill k gX θ (gT 0) (gB 0) x_keptUnits x_planner x_plan x_receipts ++ (wBasket k gB β ++ (wTariff k gT τ (fun i => some (go i 0)) ++ (wOffer k (go 0) (ω7 0) ++ (wOffer k (go 1) (ω7 1) ++ (wOffer k (go 2) (ω7 2) ++ (wOffer k (go 3) (ω7 3) ++ (wOffer k (go 4) (ω7 4) ++ (wOffer k (go 5) (ω7 5)))))))))) := by rw [eω7]; exact hD
    replace h := h ω7 eω7
    exact retX_v (u := ω7) (wf := (fun u : (Nat → St) => wTill k gX θ (gT 0) (gB 0) x_keptUnits x_planner x_plan x_receipts ++ (wBasket k gB β ++ (wTariff k gT τ (fun i => some (go i 0)) ++ (wOffer k (go 0) (u 0) ++ (wOffer k (go 1) (u 1) ++ (wOffer k (go 2) (u 2) ++ (wOffer k (go 3) (u 3) ++ (wOffer k (go 4) (u 4) ++ (wOffer k (go 5) (u 5))))))))))) C hP hD hS (Nat.le_of_ble_eq_true rfl) (Nat.le_of_ble_eq_true rfl) ⟨rfl, h⟩ d_Till_run_21
  · subst e9
    try simp only [show (nI 5).toNatClampNeg = 5 from rfl] at h
    refine W.eq (g2 := F0 m 17 ls [.ref ((go 5) 0)]) rfl ?_
    refine lv_iload_n hx hb d_Till_run_17 rfl (lv_at hl 2 rfl) ?_
    obtain ⟨hz6, h⟩ := h
    refine va_put (D := D) (ci := 1) (v := .int x2) (ty := .boolean) (C := R_Offer) (T := F_Offer) (N := 6) hx hb hts in_Offer t_Offer tt_Offer n_Offer hown hK hP hD hS 17 rfl rfl 4 (by decide) (hts _ kw_64) (fun _ h9 => h9) rfl (by decide +kernel) hz6.1 hz6.2 (Nat.le_of_ble_eq_true rfl) d_Till_run_18 (fun H locs hP hD hS => ?_)
    obtain ⟨ω7, eω7⟩ : ∃ z, z = va_up ω 5 (s2 (ω 5) 4 0 x2) := ⟨_, rfl⟩
    replace hP : va_P D CL (wTill k gX θ (gT 0) (gB 0) x_keptUnits x_planner x_plan x_receipts ++ (wBasket k gB β ++ (wTariff k gT τ (fun i => some (go i 0)) ++ (wOffer k (go 0) (ω7 0) ++ (wOffer k (go 1) (ω7 1) ++ (wOffer k (go 2) (ω7 2) ++ (wOffer k (go 3) (ω7 3) ++ (wOffer k (go 4) (ω7 4) ++ (wOffer k (go 5) (ω7 5)))))))))) H := by rw [eω7]; exact hP
    replace hD : va_D A (wTill k gX θ (gT 0) (gB 0) x_keptUnits x_planner x_plan x_receipts ++ (wBasket k gB β ++ (wTariff k gT τ (fun i => some (go i 0)) ++ (wOffer k (go 0) (ω7 0) ++ (wOffer k (go 1) (ω7 1) ++ (wOffer k (go 2) (ω7 2) ++ (wOffer k (go 3) (ω7 3) ++ (wOffer k (go 4) (ω7 4) ++ (wOffer k (go 5) (ω7 5)))))))))) := by rw [eω7]; exact hD
    replace h := h ω7 eω7
    exact retX_v (u := ω7) (wf := (fun u : (Nat → St) => wTill k gX θ (gT 0) (gB 0) x_keptUnits x_planner x_plan x_receipts ++ (wBasket k gB β ++ (wTariff k gT τ (fun i => some (go i 0)) ++ (wOffer k (go 0) (u 0) ++ (wOffer k (go 1) (u 1) ++ (wOffer k (go 2) (u 2) ++ (wOffer k (go 3) (u 3) ++ (wOffer k (go 4) (u 4) ++ (wOffer k (go 5) (u 5))))))))))) C hP hD hS (Nat.le_of_ble_eq_true rfl) (Nat.le_of_ble_eq_true rfl) ⟨rfl, h⟩ d_Till_run_21
set_option maxHeartbeats 4000000 in
set_option maxRecDepth 100000 in
theorem m_Till_scan {l : Launch} {D : va_G} {k : Nat → ClassId} (hlt : l.stackTraces = false) (N : Nat) (gX : Nat → Nat) (gB : Nat → Nat) (gT : Nat → Nat) (go : Nat → Nat → Nat) (gL : Nat → Nat) (gU : Nat → Nat) (x_keptUnits : Nat) (x_plan : Nat) (x_receipts : Nat) (θ : St) (β : St) (τ : St) (ω : Nat → St) (κ : St) (υ : St) (x1 : Int32) (post : Int32 → ((St) × (St) × (St)) → Prop) (xp : String → ((St) × (St) × (St)) → Prop) (h : wp_Till_scan N  θ β τ ω κ υ x1 post xp) : CX l D k y_Till_scan b_Till_scan 2 (some .int) rm_Till_scan [.ref (gX 0), .int x1] (wTill k gX θ (gT 0) (gB 0) x_keptUnits (gL 0) x_plan x_receipts ++ (wBasket k gB β ++ (wTariff k gT τ (fun i => some (go i 0)) ++ (wOffer k (go 0) (ω 0) ++ (wOffer k (go 1) (ω 1) ++ (wOffer k (go 2) (ω 2) ++ (wOffer k (go 3) (ω 3) ++ (wOffer k (go 4) (ω 4) ++ (wOffer k (go 5) (ω 5) ++ (wPlanner k gL κ (gU 0) ++ (wUses k gU υ))))))))))) (fun u : (St) × (St) × (St) => wTill k gX u.1 (gT 0) (gB 0) x_keptUnits (gL 0) x_plan x_receipts ++ (wBasket k gB u.2.1 ++ (wTariff k gT τ (fun i => some (go i 0)) ++ (wOffer k (go 0) (ω 0) ++ (wOffer k (go 1) (ω 1) ++ (wOffer k (go 2) (ω 2) ++ (wOffer k (go 3) (ω 3) ++ (wOffer k (go 4) (ω 4) ++ (wOffer k (go 5) (ω 5) ++ (wPlanner k gL u.2.2 (gU 0) ++ (wUses k gU υ))))))))))) (fun v (u : (St) × (St) × (St)) => ∃ r : Int32, v = some (.int r) ∧ post r u) xp := by
  refine CX.of (by decide) (Nat.le_of_ble_eq_true rfl) ?_
  intro p e s m below meth c A H locs ls C hX hcx hP hD hS hl
  obtain ⟨hx, hb, hr, hlk, hml, hown, hts, hK, hA⟩ := id C
  obtain ⟨t9, hZ9, hT9, hE9⟩ := id hX.2
  replace hl : lv_has ls 2 [(0, .ref (gX 0)), (1, .int x1)] := hl
  unfold wp_Till_scan at h
  refine lv_iload_n hx hb d_Till_scan_0 rfl (lv_at hl 1 rfl) ?_
  refine callXS (As := [.int x1]) (rest := []) C hX hS (Jn.none (S := Unit) hP hD hS hA) (m_Till_requireArticle hlt N   x1  _ _ h) kw_273 kw_274 kw_1 kw_275 (hd_Till_requireArticle).2 rfl ⟨Nat.le_of_ble_eq_true rfl, Nat.le_of_ble_eq_true rfl⟩ ⟨Nat.le_of_ble_eq_true rfl, Nat.le_of_ble_eq_true rfl⟩ hl.1 (Nat.le_of_ble_eq_true rfl) d_Till_scan_1 (fun v9 u1 H locs h hP hD hS => ?_) (fun q9 E9 u9 ce9 H locs h hP hD hS hce9 hcv9 hcl9 => ?_)
  rotate_left
  · exact outX (u := (θ, β, κ)) (wf := (fun u : (St) × (St) × (St) => wTill k gX u.1 (gT 0) (gB 0) x_keptUnits (gL 0) x_plan x_receipts ++ (wBasket k gB u.2.1 ++ (wTariff k gT τ (fun i => some (go i 0)) ++ (wOffer k (go 0) (ω 0) ++ (wOffer k (go 1) (ω 1) ++ (wOffer k (go 2) (ω 2) ++ (wOffer k (go 3) (ω 3) ++ (wOffer k (go 4) (ω 4) ++ (wOffer k (go 5) (ω 5) ++ (wPlanner k gL u.2.2 (gU 0) ++ (wUses k gU υ)))))))))))) C hcx hP hD hS hce9 hcv9 hcl9 (Nat.le_of_ble_eq_true rfl) (Nat.le_of_ble_eq_true rfl) h
  obtain ⟨rfl, h⟩ := h
  refine W.eq (g2 := F0 m 4 ls []) rfl ?_
  replace hP : va_P D CL (wTill k gX θ (gT 0) (gB 0) x_keptUnits (gL 0) x_plan x_receipts ++ (wBasket k gB β ++ (wTariff k gT τ (fun i => some (go i 0)) ++ (wOffer k (go 0) (ω 0) ++ (wOffer k (go 1) (ω 1) ++ (wOffer k (go 2) (ω 2) ++ (wOffer k (go 3) (ω 3) ++ (wOffer k (go 4) (ω 4) ++ (wOffer k (go 5) (ω 5) ++ (wPlanner k gL κ (gU 0) ++ (wUses k gU υ))))))))))) H := hP
  replace hD : va_D A (wTill k gX θ (gT 0) (gB 0) x_keptUnits (gL 0) x_plan x_receipts ++ (wBasket k gB β ++ (wTariff k gT τ (fun i => some (go i 0)) ++ (wOffer k (go 0) (ω 0) ++ (wOffer k (go 1) (ω 1) ++ (wOffer k (go 2) (ω 2) ++ (wOffer k (go 3) (ω 3) ++ (wOffer k (go 4) (ω 4) ++ (wOffer k (go 5) (ω 5) ++ (wPlanner k gL κ (gU 0) ++ (wUses k gU υ))))))))))) := hD
  try dsimp only at h
  refine lv_aload_n hx hb d_Till_scan_4 rfl (lv_at hl 0 rfl) ?_
  refine va_get (D := D) (ci := 7) (v := .ref (gB 0)) (C := R_Till) (T := F_Till) (N := 9) hx hb hts in_Till hown hK hP 0 rfl rfl 2 (by decide) (hts _ kw_238) (fun _ h9 => h9) rfl d_Till_scan_5 ?_
  refine va_get (D := D) (ci := 0) (v := .int (β 1 0)) (C := R_Basket) (T := F_Basket) (N := 2) hx hb hts in_Basket hown hK hP 2 rfl rfl 1 (by decide) (hts _ kw_109) (fun _ h9 => h9) rfl d_Till_scan_8 ?_
  refine lv_bipush (v := 10) hx hb d_Till_scan_11 (by decide) ?_
  refine lv_icmp_lt (tgt := 26) hx hb d_Till_scan_13 (by decide) (fun c3 => ?_) (fun c3 => ?_)
  · replace h := h.1 c3
    refine lv_aload_n hx hb d_Till_scan_26 rfl (lv_at hl 0 rfl) ?_
    refine va_get (D := D) (ci := 7) (v := .ref (gB 0)) (C := R_Till) (T := F_Till) (N := 9) hx hb hts in_Till hown hK hP 0 rfl rfl 2 (by decide) (hts _ kw_238) (fun _ h9 => h9) rfl d_Till_scan_27 ?_
    refine lv_iload_n hx hb d_Till_scan_30 rfl (lv_at hl 1 rfl) ?_
    refine call_v (wr := [(gX 0, .inr (7, [.ref (gT 0), .ref (gX 1), .ref (gB 0), .ref x_keptUnits, .ref (gL 0), .ref x_plan, .ref x_receipts, .int (θ 7 0), .int (θ 8 0)])), (gX 1, .inl (k 0, 12, .inl (θ 1))), (gT 0, .inr (5, [.ref (gT 1), .ref (gT 2)])), (gT 1, .inl (k 0, 12, .inl (τ 0))), (gT 2, .inl (k 3, 6, .inr (.inr (.inr (.inr (fun i => some (go i 0))))))), ((go 0) 0, .inr (1, [.int ((ω 0) 0 0), .int ((ω 0) 1 0), .int ((ω 0) 2 0), .int ((ω 0) 3 0), .int ((ω 0) 4 0), .ref ((go 0) 1)])), ((go 0) 1, .inl (k 0, 4, .inl ((ω 0) 5))), ((go 1) 0, .inr (1, [.int ((ω 1) 0 0), .int ((ω 1) 1 0), .int ((ω 1) 2 0), .int ((ω 1) 3 0), .int ((ω 1) 4 0), .ref ((go 1) 1)])), ((go 1) 1, .inl (k 0, 4, .inl ((ω 1) 5))), ((go 2) 0, .inr (1, [.int ((ω 2) 0 0), .int ((ω 2) 1 0), .int ((ω 2) 2 0), .int ((ω 2) 3 0), .int ((ω 2) 4 0), .ref ((go 2) 1)])), ((go 2) 1, .inl (k 0, 4, .inl ((ω 2) 5))), ((go 3) 0, .inr (1, [.int ((ω 3) 0 0), .int ((ω 3) 1 0), .int ((ω 3) 2 0), .int ((ω 3) 3 0), .int ((ω 3) 4 0), .ref ((go 3) 1)])), ((go 3) 1, .inl (k 0, 4, .inl ((ω 3) 5))), ((go 4) 0, .inr (1, [.int ((ω 4) 0 0), .int ((ω 4) 1 0), .int ((ω 4) 2 0), .int ((ω 4) 3 0), .int ((ω 4) 4 0), .ref ((go 4) 1)])), ((go 4) 1, .inl (k 0, 4, .inl ((ω 4) 5))), ((go 5) 0, .inr (1, [.int ((ω 5) 0 0), .int ((ω 5) 1 0), .int ((ω 5) 2 0), .int ((ω 5) 3 0), .int ((ω 5) 4 0), .ref ((go 5) 1)])), ((go 5) 1, .inl (k 0, 4, .inl ((ω 5) 5))), (gL 0, .inr (3, [.ref (gL 1), .ref (gL 2), .ref (gL 3), .ref (gL 4), .ref (gU 0), .int (κ 5 0)])), (gL 1, .inl (k 0, 18, .inl (κ 0))), (gL 2, .inl (k 0, 18, .inl (κ 1))), (gL 3, .inl (k 0, 18, .inl (κ 2))), (gL 4, .inl (k 0, 3000, .inl (κ 3))), (gU 0, .inr (6, [.ref (gU 1), .ref (gU 2), .ref (gU 3), .ref (gU 4), .ref (gU 5), .ref (gU 6), .ref (gU 7), .ref (gU 8), .int (υ 8 0), .int (υ 9 0)])), (gU 1, .inl (k 0, 1260, .inl (υ 0))), (gU 2, .inl (k 0, 1260, .inl (υ 1))), (gU 3, .inl (k 0, 1260, .inl (υ 2))), (gU 4, .inl (k 0, 1260, .inl (υ 3))), (gU 5, .inl (k 0, 12, .inl (υ 4))), (gU 6, .inl (k 0, 12, .inl (υ 5))), (gU 7, .inl (k 0, 12, .inl (υ 6))), (gU 8, .inl (k 0, 1024, .inl (υ 7)))]) (wn := (fun u4 : (St) => wTill k gX θ (gT 0) (gB 0) x_keptUnits (gL 0) x_plan x_receipts ++ (wBasket k gB u4 ++ (wTariff k gT τ (fun i => some (go i 0)) ++ (wOffer k (go 0) (ω 0) ++ (wOffer k (go 1) (ω 1) ++ (wOffer k (go 2) (ω 2) ++ (wOffer k (go 3) (ω 3) ++ (wOffer k (go 4) (ω 4) ++ (wOffer k (go 5) (ω 5) ++ (wPlanner k gL κ (gU 0) ++ (wUses k gU υ)))))))))))) C hP hD hS [2, 3] [0, 1, 4, 5, 6, 7, 8, 9, 10, 11, 12, 13, 14, 15, 16, 17, 18, 19, 20, 21, 22, 23, 24, 25, 26, 27, 28, 29, 30, 31, 32] [0, 1, 31, 32, 2, 3, 4, 5, 6, 7, 8, 9, 10, 11, 12, 13, 14, 15, 16, 17, 18, 19, 20, 21, 22, 23, 24, 25, 26, 27, 28, 29, 30] rfl rfl (by decide) (by decide) (fun _ => rfl) (by decide) (runV (As := [.int x1]) (rest := []) C (hP.sub [2, 3] rfl) (hD.sub [2, 3] (by decide) rfl) (m_Basket_add N gB β x1  _ h H.size) kw_427 kw_428 kw_429 kw_5 kw_430 hd_Basket_add ⟨Nat.le_of_ble_eq_true rfl, Nat.le_of_ble_eq_true rfl⟩ ⟨Nat.le_of_ble_eq_true rfl, Nat.le_of_ble_eq_true rfl⟩ 0 rfl rfl rfl rfl hl.1 (Nat.le_of_ble_eq_true rfl) d_Till_scan_31) (fun u4 H locs h hP hD hS => ?_)
    try dsimp only at h
    refine lv_aload_n hx hb d_Till_scan_34 rfl (lv_at hl 0 rfl) ?_
    refine va_get (D := D) (ci := 7) (v := .ref (gL 0)) (C := R_Till) (T := F_Till) (N := 9) hx hb hts in_Till hown hK hP 0 rfl rfl 4 (by decide) (hts _ kw_240) (fun _ h9 => h9) rfl d_Till_scan_35 ?_
    refine lv_aload_n hx hb d_Till_scan_38 rfl (lv_at hl 0 rfl) ?_
    refine va_get (D := D) (ci := 7) (v := .ref (gT 0)) (C := R_Till) (T := F_Till) (N := 9) hx hb hts in_Till hown hK hP 0 rfl rfl 0 (by decide) (hts _ kw_236) (fun _ h9 => h9) rfl d_Till_scan_39 ?_
    refine lv_aload_n hx hb d_Till_scan_42 rfl (lv_at hl 0 rfl) ?_
    refine va_get (D := D) (ci := 7) (v := .ref (gB 0)) (C := R_Till) (T := F_Till) (N := 9) hx hb hts in_Till hown hK hP 0 rfl rfl 2 (by decide) (hts _ kw_238) (fun _ h9 => h9) rfl d_Till_scan_43 ?_
    refine call_i (wr := [(gX 0, .inr (7, [.ref (gT 0), .ref (gX 1), .ref (gB 0), .ref x_keptUnits, .ref (gL 0), .ref x_plan, .ref x_receipts, .int (θ 7 0), .int (θ 8 0)])), (gX 1, .inl (k 0, 12, .inl (θ 1)))]) (wn := (fun u6 : (St) => wTill k gX θ (gT 0) (gB 0) x_keptUnits (gL 0) x_plan x_receipts ++ (wBasket k gB u4 ++ (wTariff k gT τ (fun i => some (go i 0)) ++ (wOffer k (go 0) (ω 0) ++ (wOffer k (go 1) (ω 1) ++ (wOffer k (go 2) (ω 2) ++ (wOffer k (go 3) (ω 3) ++ (wOffer k (go 4) (ω 4) ++ (wOffer k (go 5) (ω 5) ++ (wPlanner k gL u6 (gU 0) ++ (wUses k gU υ)))))))))))) C hP hD hS [19, 20, 21, 22, 23, 24, 25, 26, 27, 28, 29, 30, 31, 32, 4, 5, 6, 7, 8, 9, 10, 11, 12, 13, 14, 15, 16, 17, 18, 2, 3] [0, 1] [0, 1, 31, 32, 16, 17, 18, 19, 20, 21, 22, 23, 24, 25, 26, 27, 28, 29, 30, 2, 3, 4, 5, 6, 7, 8, 9, 10, 11, 12, 13, 14, 15] rfl rfl (by decide) (by decide) (fun _ => rfl) (by decide) (runV (As := [.ref (gT 0), .ref (gB 0)]) (rest := []) C (hP.sub [19, 20, 21, 22, 23, 24, 25, 26, 27, 28, 29, 30, 31, 32, 4, 5, 6, 7, 8, 9, 10, 11, 12, 13, 14, 15, 16, 17, 18, 2, 3] rfl) (hD.sub [19, 20, 21, 22, 23, 24, 25, 26, 27, 28, 29, 30, 31, 32, 4, 5, 6, 7, 8, 9, 10, 11, 12, 13, 14, 15, 16, 17, 18, 2, 3] (by decide) rfl) (m_Planner_roomFor N gL gU gT go gB κ υ τ ω u4   _ h H.size) kw_431 kw_432 kw_433 kw_6 kw_434 hd_Planner_roomFor ⟨Nat.le_of_ble_eq_true rfl, Nat.le_of_ble_eq_true rfl⟩ ⟨Nat.le_of_ble_eq_true rfl, Nat.le_of_ble_eq_true rfl⟩ 0 rfl rfl rfl rfl hl.1 (Nat.le_of_ble_eq_true rfl) d_Till_scan_46) (fun r7 u6 H locs h hP hD hS => ?_)
    try dsimp only at h
    refine lv_sipush (v := 3000) hx hb d_Till_scan_49 (by decide) ?_
    refine lv_icmp_le (tgt := 81) hx hb d_Till_scan_52 (by decide) (fun c8 => ?_) (fun c8 => ?_)
    · replace h := h.1 c8
      refine lv_aload_n hx hb d_Till_scan_81 rfl (lv_at hl 0 rfl) ?_
      refine lv_iconst (v := 0) hx hb d_Till_scan_82 (by decide) ?_
      refine va_put (D := D) (ci := 7) (v := .int 0) (ty := .boolean) (C := R_Till) (T := F_Till) (N := 9) hx hb hts in_Till t_Till tt_Till n_Till hown hK hP hD hS 0 rfl rfl 7 (by decide) (hts _ kw_243) (fun _ h9 => h9) rfl (by decide +kernel) rfl rfl (Nat.le_of_ble_eq_true rfl) d_Till_scan_83 (fun H locs hP hD hS => ?_)
      obtain ⟨θ9, eθ9⟩ : ∃ z, z = s2 θ 7 0 0 := ⟨_, rfl⟩
      replace hP : va_P D CL (wTill k gX θ9 (gT 0) (gB 0) x_keptUnits (gL 0) x_plan x_receipts ++ (wBasket k gB u4 ++ (wTariff k gT τ (fun i => some (go i 0)) ++ (wOffer k (go 0) (ω 0) ++ (wOffer k (go 1) (ω 1) ++ (wOffer k (go 2) (ω 2) ++ (wOffer k (go 3) (ω 3) ++ (wOffer k (go 4) (ω 4) ++ (wOffer k (go 5) (ω 5) ++ (wPlanner k gL u6 (gU 0) ++ (wUses k gU υ))))))))))) H := by rw [eθ9]; exact hP
      replace hD : va_D A (wTill k gX θ9 (gT 0) (gB 0) x_keptUnits (gL 0) x_plan x_receipts ++ (wBasket k gB u4 ++ (wTariff k gT τ (fun i => some (go i 0)) ++ (wOffer k (go 0) (ω 0) ++ (wOffer k (go 1) (ω 1) ++ (wOffer k (go 2) (ω 2) ++ (wOffer k (go 3) (ω 3) ++ (wOffer k (go 4) (ω 4) ++ (wOffer k (go 5) (ω 5) ++ (wPlanner k gL u6 (gU 0) ++ (wUses k gU υ))))))))))) := by rw [eθ9]; exact hD
      replace h := h θ9 eθ9
      refine lv_aload_n hx hb d_Till_scan_86 rfl (lv_at hl 0 rfl) ?_
      refine va_get (D := D) (ci := 7) (v := .ref (gB 0)) (C := R_Till) (T := F_Till) (N := 9) hx hb hts in_Till hown hK hP 0 rfl rfl 2 (by decide) (hts _ kw_238) (fun _ h9 => h9) rfl d_Till_scan_87 ?_
      refine va_get (D := D) (ci := 0) (v := .int (u4 1 0)) (C := R_Basket) (T := F_Basket) (N := 2) hx hb hts in_Basket hown hK hP 2 rfl rfl 1 (by decide) (hts _ kw_109) (fun _ h9 => h9) rfl d_Till_scan_90 ?_
      exact retX_i (u := (θ9, u4, u6)) (wf := (fun u : (St) × (St) × (St) => wTill k gX u.1 (gT 0) (gB 0) x_keptUnits (gL 0) x_plan x_receipts ++ (wBasket k gB u.2.1 ++ (wTariff k gT τ (fun i => some (go i 0)) ++ (wOffer k (go 0) (ω 0) ++ (wOffer k (go 1) (ω 1) ++ (wOffer k (go 2) (ω 2) ++ (wOffer k (go 3) (ω 3) ++ (wOffer k (go 4) (ω 4) ++ (wOffer k (go 5) (ω 5) ++ (wPlanner k gL u.2.2 (gU 0) ++ (wUses k gU υ)))))))))))) C hP hD hS (Nat.le_of_ble_eq_true rfl) (Nat.le_of_ble_eq_true rfl) ⟨_, rfl, h⟩ d_Till_scan_93
    · replace h := h.2 c8
      refine lv_aload_n hx hb d_Till_scan_55 rfl (lv_at hl 0 rfl) ?_
      refine va_get (D := D) (ci := 7) (v := .ref (gB 0)) (C := R_Till) (T := F_Till) (N := 9) hx hb hts in_Till hown hK hP 0 rfl rfl 2 (by decide) (hts _ kw_238) (fun _ h9 => h9) rfl d_Till_scan_56 ?_
      refine lv_aload_n hx hb d_Till_scan_59 rfl (lv_at hl 0 rfl) ?_
      refine va_get (D := D) (ci := 7) (v := .ref (gB 0)) (C := R_Till) (T := F_Till) (N := 9) hx hb hts in_Till hown hK hP 0 rfl rfl 2 (by decide) (hts _ kw_238) (fun _ h9 => h9) rfl d_Till_scan_60 ?_
      refine va_get (D := D) (ci := 0) (v := .int (u4 1 0)) (C := R_Basket) (T := F_Basket) (N := 2) hx hb hts in_Basket hown hK hP 2 rfl rfl 1 (by decide) (hts _ kw_109) (fun _ h9 => h9) rfl d_Till_scan_63 ?_
      refine lv_iconst (v := 1) hx hb d_Till_scan_66 (by decide) ?_
      refine lv_isub hx hb d_Till_scan_67 ?_
      refine call_v (wr := [(gX 0, .inr (7, [.ref (gT 0), .ref (gX 1), .ref (gB 0), .ref x_keptUnits, .ref (gL 0), .ref x_plan, .ref x_receipts, .int (θ 7 0), .int (θ 8 0)])), (gX 1, .inl (k 0, 12, .inl (θ 1))), (gT 0, .inr (5, [.ref (gT 1), .ref (gT 2)])), (gT 1, .inl (k 0, 12, .inl (τ 0))), (gT 2, .inl (k 3, 6, .inr (.inr (.inr (.inr (fun i => some (go i 0))))))), ((go 0) 0, .inr (1, [.int ((ω 0) 0 0), .int ((ω 0) 1 0), .int ((ω 0) 2 0), .int ((ω 0) 3 0), .int ((ω 0) 4 0), .ref ((go 0) 1)])), ((go 0) 1, .inl (k 0, 4, .inl ((ω 0) 5))), ((go 1) 0, .inr (1, [.int ((ω 1) 0 0), .int ((ω 1) 1 0), .int ((ω 1) 2 0), .int ((ω 1) 3 0), .int ((ω 1) 4 0), .ref ((go 1) 1)])), ((go 1) 1, .inl (k 0, 4, .inl ((ω 1) 5))), ((go 2) 0, .inr (1, [.int ((ω 2) 0 0), .int ((ω 2) 1 0), .int ((ω 2) 2 0), .int ((ω 2) 3 0), .int ((ω 2) 4 0), .ref ((go 2) 1)])), ((go 2) 1, .inl (k 0, 4, .inl ((ω 2) 5))), ((go 3) 0, .inr (1, [.int ((ω 3) 0 0), .int ((ω 3) 1 0), .int ((ω 3) 2 0), .int ((ω 3) 3 0), .int ((ω 3) 4 0), .ref ((go 3) 1)])), ((go 3) 1, .inl (k 0, 4, .inl ((ω 3) 5))), ((go 4) 0, .inr (1, [.int ((ω 4) 0 0), .int ((ω 4) 1 0), .int ((ω 4) 2 0), .int ((ω 4) 3 0), .int ((ω 4) 4 0), .ref ((go 4) 1)])), ((go 4) 1, .inl (k 0, 4, .inl ((ω 4) 5))), ((go 5) 0, .inr (1, [.int ((ω 5) 0 0), .int ((ω 5) 1 0), .int ((ω 5) 2 0), .int ((ω 5) 3 0), .int ((ω 5) 4 0), .ref ((go 5) 1)])), ((go 5) 1, .inl (k 0, 4, .inl ((ω 5) 5))), (gL 0, .inr (3, [.ref (gL 1), .ref (gL 2), .ref (gL 3), .ref (gL 4), .ref (gU 0), .int (u6 5 0)])), (gL 1, .inl (k 0, 18, .inl (u6 0))), (gL 2, .inl (k 0, 18, .inl (u6 1))), (gL 3, .inl (k 0, 18, .inl (u6 2))), (gL 4, .inl (k 0, 3000, .inl (u6 3))), (gU 0, .inr (6, [.ref (gU 1), .ref (gU 2), .ref (gU 3), .ref (gU 4), .ref (gU 5), .ref (gU 6), .ref (gU 7), .ref (gU 8), .int (υ 8 0), .int (υ 9 0)])), (gU 1, .inl (k 0, 1260, .inl (υ 0))), (gU 2, .inl (k 0, 1260, .inl (υ 1))), (gU 3, .inl (k 0, 1260, .inl (υ 2))), (gU 4, .inl (k 0, 1260, .inl (υ 3))), (gU 5, .inl (k 0, 12, .inl (υ 4))), (gU 6, .inl (k 0, 12, .inl (υ 5))), (gU 7, .inl (k 0, 12, .inl (υ 6))), (gU 8, .inl (k 0, 1024, .inl (υ 7)))]) (wn := (fun u10 : (St) => wTill k gX θ (gT 0) (gB 0) x_keptUnits (gL 0) x_plan x_receipts ++ (wBasket k gB u10 ++ (wTariff k gT τ (fun i => some (go i 0)) ++ (wOffer k (go 0) (ω 0) ++ (wOffer k (go 1) (ω 1) ++ (wOffer k (go 2) (ω 2) ++ (wOffer k (go 3) (ω 3) ++ (wOffer k (go 4) (ω 4) ++ (wOffer k (go 5) (ω 5) ++ (wPlanner k gL u6 (gU 0) ++ (wUses k gU υ)))))))))))) C hP hD hS [2, 3] [0, 1, 4, 5, 6, 7, 8, 9, 10, 11, 12, 13, 14, 15, 16, 17, 18, 19, 20, 21, 22, 23, 24, 25, 26, 27, 28, 29, 30, 31, 32] [0, 1, 31, 32, 2, 3, 4, 5, 6, 7, 8, 9, 10, 11, 12, 13, 14, 15, 16, 17, 18, 19, 20, 21, 22, 23, 24, 25, 26, 27, 28, 29, 30] rfl rfl (by decide) (by decide) (fun _ => rfl) (by decide) (runV (As := [.int ((u4 1 0) - 1)]) (rest := []) C (hP.sub [2, 3] rfl) (hD.sub [2, 3] (by decide) rfl) (m_Basket_remove N gB u4 ((u4 1 0) - 1)  _ h H.size) kw_455 kw_456 kw_457 kw_5 kw_458 hd_Basket_remove ⟨Nat.le_of_ble_eq_true rfl, Nat.le_of_ble_eq_true rfl⟩ ⟨Nat.le_of_ble_eq_true rfl, Nat.le_of_ble_eq_true rfl⟩ 0 rfl rfl rfl rfl hl.1 (Nat.le_of_ble_eq_true rfl) d_Till_scan_68) (fun u10 H locs h hP hD hS => ?_)
      try dsimp only at h
      exact thr (u := (θ, u10, u6)) (wf := (fun u : (St) × (St) × (St) => wTill k gX u.1 (gT 0) (gB 0) x_keptUnits (gL 0) x_plan x_receipts ++ (wBasket k gB u.2.1 ++ (wTariff k gT τ (fun i => some (go i 0)) ++ (wOffer k (go 0) (ω 0) ++ (wOffer k (go 1) (ω 1) ++ (wOffer k (go 2) (ω 2) ++ (wOffer k (go 3) (ω 3) ++ (wOffer k (go 4) (ω 4) ++ (wOffer k (go 5) (ω 5) ++ (wPlanner k gL u.2.2 (gU 0) ++ (wUses k gU υ)))))))))))) (text := "the room would not do") C hX hlt hcx xOk_uo (by decide +kernel) kw_411 kw_18 (by decide +kernel) hP hD hS hl.1 d_Till_scan_71 d_Till_scan_74 d_Till_scan_75 d_Till_scan_77 d_Till_scan_80 (Nat.le_of_ble_eq_true rfl) (Nat.le_of_ble_eq_true rfl) (Nat.le_of_ble_eq_true rfl) (Nat.le_of_ble_eq_true rfl) (Nat.le_refl _) (Nat.le_refl _) h
  · replace h := h.2 c3
    exact thr (u := (θ, β, κ)) (wf := (fun u : (St) × (St) × (St) => wTill k gX u.1 (gT 0) (gB 0) x_keptUnits (gL 0) x_plan x_receipts ++ (wBasket k gB u.2.1 ++ (wTariff k gT τ (fun i => some (go i 0)) ++ (wOffer k (go 0) (ω 0) ++ (wOffer k (go 1) (ω 1) ++ (wOffer k (go 2) (ω 2) ++ (wOffer k (go 3) (ω 3) ++ (wOffer k (go 4) (ω 4) ++ (wOffer k (go 5) (ω 5) ++ (wPlanner k gL u.2.2 (gU 0) ++ (wUses k gU υ)))))))))))) (text := "the basket has ten units") C hX hlt hcx xOk_uo (by decide +kernel) kw_411 kw_18 (by decide +kernel) hP hD hS hl.1 d_Till_scan_16 d_Till_scan_19 d_Till_scan_20 d_Till_scan_22 d_Till_scan_25 (Nat.le_of_ble_eq_true rfl) (Nat.le_of_ble_eq_true rfl) (Nat.le_of_ble_eq_true rfl) (Nat.le_of_ble_eq_true rfl) (Nat.le_refl _) (Nat.le_refl _) h
set_option maxHeartbeats 4000000 in
set_option maxRecDepth 100000 in
theorem m_Till_unscan {l : Launch} {D : va_G} {k : Nat → ClassId} (hlt : l.stackTraces = false) (N : Nat) (gX : Nat → Nat) (gB : Nat → Nat) (x_tariff : Nat) (x_keptUnits : Nat) (x_planner : Nat) (x_plan : Nat) (x_receipts : Nat) (θ : St) (β : St) (x1 : Int32) (post : Int32 → ((St) × (St)) → Prop) (xp : String → ((St) × (St)) → Prop) (h : wp_Till_unscan N  θ β x1 post xp) : CX l D k y_Till_unscan b_Till_unscan 3 (some .int) rm_Till_unscan [.ref (gX 0), .int x1] (wTill k gX θ x_tariff (gB 0) x_keptUnits x_planner x_plan x_receipts ++ (wBasket k gB β)) (fun u : (St) × (St) => wTill k gX u.1 x_tariff (gB 0) x_keptUnits x_planner x_plan x_receipts ++ (wBasket k gB u.2)) (fun v (u : (St) × (St)) => ∃ r : Int32, v = some (.int r) ∧ post r u) xp := by
  refine CX.of (by decide) (Nat.le_of_ble_eq_true rfl) ?_
  intro p e s m below meth c A H locs ls C hX hcx hP hD hS hl
  obtain ⟨hx, hb, hr, hlk, hml, hown, hts, hK, hA⟩ := id C
  obtain ⟨t9, hZ9, hT9, hE9⟩ := id hX.2
  replace hl : lv_has ls 3 [(0, .ref (gX 0)), (1, .int x1)] := hl
  unfold wp_Till_unscan at h
  refine lv_iload_n hx hb d_Till_unscan_0 rfl (lv_at hl 1 rfl) ?_
  refine lv_aload_n hx hb d_Till_unscan_1 rfl (lv_at hl 0 rfl) ?_
  refine va_get (D := D) (ci := 7) (v := .ref (gB 0)) (C := R_Till) (T := F_Till) (N := 9) hx hb hts in_Till hown hK hP 0 rfl rfl 2 (by decide) (hts _ kw_238) (fun _ h9 => h9) rfl d_Till_unscan_2 ?_
  refine va_get (D := D) (ci := 0) (v := .int (β 1 0)) (C := R_Basket) (T := F_Basket) (N := 2) hx hb hts in_Basket hown hK hP 2 rfl rfl 1 (by decide) (hts _ kw_109) (fun _ h9 => h9) rfl d_Till_unscan_5 ?_
  refine callXS (As := [.int x1, .int (β 1 0)]) (rest := []) C hX hS (Jn.none (S := Unit) hP hD hS hA) (m_Till_requireIndex hlt N   x1 (β 1 0)  _ _ h) kw_468 kw_469 kw_1 kw_470 (hd_Till_requireIndex).2 rfl ⟨Nat.le_of_ble_eq_true rfl, Nat.le_of_ble_eq_true rfl⟩ ⟨Nat.le_of_ble_eq_true rfl, Nat.le_of_ble_eq_true rfl⟩ hl.1 (Nat.le_of_ble_eq_true rfl) d_Till_unscan_8 (fun v9 u1 H locs h hP hD hS => ?_) (fun q9 E9 u9 ce9 H locs h hP hD hS hce9 hcv9 hcl9 => ?_)
  rotate_left
  · exact outX (u := (θ, β)) (wf := (fun u : (St) × (St) => wTill k gX u.1 x_tariff (gB 0) x_keptUnits x_planner x_plan x_receipts ++ (wBasket k gB u.2))) C hcx hP hD hS hce9 hcv9 hcl9 (Nat.le_of_ble_eq_true rfl) (Nat.le_of_ble_eq_true rfl) h
  obtain ⟨rfl, h⟩ := h
  refine W.eq (g2 := F0 m 11 ls []) rfl ?_
  replace hP : va_P D CL (wTill k gX θ x_tariff (gB 0) x_keptUnits x_planner x_plan x_receipts ++ (wBasket k gB β)) H := hP
  replace hD : va_D A (wTill k gX θ x_tariff (gB 0) x_keptUnits x_planner x_plan x_receipts ++ (wBasket k gB β)) := hD
  try dsimp only at h
  refine lv_aload_n hx hb d_Till_unscan_11 rfl (lv_at hl 0 rfl) ?_
  refine va_get (D := D) (ci := 7) (v := .ref (gB 0)) (C := R_Till) (T := F_Till) (N := 9) hx hb hts in_Till hown hK hP 0 rfl rfl 2 (by decide) (hts _ kw_238) (fun _ h9 => h9) rfl d_Till_unscan_12 ?_
  refine va_get (D := D) (ci := 0) (v := .ref (gB 1)) (C := R_Basket) (T := F_Basket) (N := 2) hx hb hts in_Basket hown hK hP 2 rfl rfl 0 (by decide) (hts _ kw_104) (fun _ h9 => h9) rfl d_Till_unscan_15 ?_
  refine lv_iload_n hx hb d_Till_unscan_18 rfl (lv_at hl 1 rfl) ?_
  obtain ⟨hi3, h⟩ := h
  refine va_iald hx hb hK hP 3 0 rfl rfl hi3 d_Till_unscan_19 ?_
  refine lv_istore_n (lv' := [(2, .int (β 0 (Int32.toNatClampNeg x1))), (0, .ref (gX 0)), (1, .int x1)]) hx hb d_Till_unscan_20 rfl hl (by decide) rfl (fun ls hl => ?_)
  refine lv_aload_n hx hb d_Till_unscan_21 rfl (lv_at hl 1 rfl) ?_
  refine va_get (D := D) (ci := 7) (v := .ref (gB 0)) (C := R_Till) (T := F_Till) (N := 9) hx hb hts in_Till hown hK hP 0 rfl rfl 2 (by decide) (hts _ kw_238) (fun _ h9 => h9) rfl d_Till_unscan_22 ?_
  refine lv_iload_n hx hb d_Till_unscan_25 rfl (lv_at hl 2 rfl) ?_
  refine call_v (wr := [(gX 0, .inr (7, [.ref x_tariff, .ref (gX 1), .ref (gB 0), .ref x_keptUnits, .ref x_planner, .ref x_plan, .ref x_receipts, .int (θ 7 0), .int (θ 8 0)])), (gX 1, .inl (k 0, 12, .inl (θ 1)))]) (wn := (fun u4 : (St) => wTill k gX θ x_tariff (gB 0) x_keptUnits x_planner x_plan x_receipts ++ (wBasket k gB u4))) C hP hD hS [2, 3] [0, 1] [0, 1, 2, 3] rfl rfl (by decide) (by decide) (fun _ => rfl) (by decide) (runV (As := [.int x1]) (rest := []) C (hP.sub [2, 3] rfl) (hD.sub [2, 3] (by decide) rfl) (m_Basket_remove N gB β x1  _ h H.size) kw_455 kw_456 kw_457 kw_5 kw_458 hd_Basket_remove ⟨Nat.le_of_ble_eq_true rfl, Nat.le_of_ble_eq_true rfl⟩ ⟨Nat.le_of_ble_eq_true rfl, Nat.le_of_ble_eq_true rfl⟩ 0 rfl rfl rfl rfl hl.1 (Nat.le_of_ble_eq_true rfl) d_Till_unscan_26) (fun u4 H locs h hP hD hS => ?_)
  try dsimp only at h
  refine lv_aload_n hx hb d_Till_unscan_29 rfl (lv_at hl 1 rfl) ?_
  refine lv_iconst (v := 0) hx hb d_Till_unscan_30 (by decide) ?_
  refine va_put (D := D) (ci := 7) (v := .int 0) (ty := .boolean) (C := R_Till) (T := F_Till) (N := 9) hx hb hts in_Till t_Till tt_Till n_Till hown hK hP hD hS 0 rfl rfl 7 (by decide) (hts _ kw_243) (fun _ h9 => h9) rfl (by decide +kernel) rfl rfl (Nat.le_of_ble_eq_true rfl) d_Till_unscan_31 (fun H locs hP hD hS => ?_)
  obtain ⟨θ6, eθ6⟩ : ∃ z, z = s2 θ 7 0 0 := ⟨_, rfl⟩
  replace hP : va_P D CL (wTill k gX θ6 x_tariff (gB 0) x_keptUnits x_planner x_plan x_receipts ++ (wBasket k gB u4)) H := by rw [eθ6]; exact hP
  replace hD : va_D A (wTill k gX θ6 x_tariff (gB 0) x_keptUnits x_planner x_plan x_receipts ++ (wBasket k gB u4)) := by rw [eθ6]; exact hD
  replace h := h θ6 eθ6
  refine lv_iload_n hx hb d_Till_unscan_34 rfl (lv_at hl 0 rfl) ?_
  exact retX_i (u := (θ6, u4)) (wf := (fun u : (St) × (St) => wTill k gX u.1 x_tariff (gB 0) x_keptUnits x_planner x_plan x_receipts ++ (wBasket k gB u.2))) C hP hD hS (Nat.le_of_ble_eq_true rfl) (Nat.le_of_ble_eq_true rfl) ⟨_, rfl, h⟩ d_Till_unscan_35
set_option maxHeartbeats 4000000 in
set_option maxRecDepth 100000 in
theorem m_Till_findPlan {l : Launch} {D : va_G} {k : Nat → ClassId} (N : Nat) (gX : Nat → Nat) (gB : Nat → Nat) (gT : Nat → Nat) (go : Nat → Nat → Nat) (gL : Nat → Nat) (gU : Nat → Nat) (gP : Nat → Nat) (gR : Nat → Nat) (x_keptUnits : Nat) (x_receipts : Nat) (θ : St) (β : St) (τ : St) (ω : Nat → St) (κ : St) (υ : St) (π : St) (ρ : Nat → Int64) (post : ((St) × (St) × (St) × (St) × (Nat → Int64)) → Prop) (h : wp_Till_findPlan N  θ β τ ω κ υ π ρ  post) : Cv l D k y_Till_findPlan b_Till_findPlan 1 rm_Till_findPlan [.ref (gX 0)] (wTill k gX θ (gT 0) (gB 0) x_keptUnits (gL 0) (gP 0) x_receipts ++ (wBasket k gB β ++ (wTariff k gT τ (fun i => some (go i 0)) ++ (wOffer k (go 0) (ω 0) ++ (wOffer k (go 1) (ω 1) ++ (wOffer k (go 2) (ω 2) ++ (wOffer k (go 3) (ω 3) ++ (wOffer k (go 4) (ω 4) ++ (wOffer k (go 5) (ω 5) ++ (wPlanner k gL κ (gU 0) ++ (wUses k gU υ ++ (wPlan k gP π (gR 0) ++ (wRem k gR ρ))))))))))))) (fun u : (St) × (St) × (St) × (St) × (Nat → Int64) => wTill k gX u.1 (gT 0) (gB 0) x_keptUnits (gL 0) (gP 0) x_receipts ++ (wBasket k gB β ++ (wTariff k gT τ (fun i => some (go i 0)) ++ (wOffer k (go 0) (ω 0) ++ (wOffer k (go 1) (ω 1) ++ (wOffer k (go 2) (ω 2) ++ (wOffer k (go 3) (ω 3) ++ (wOffer k (go 4) (ω 4) ++ (wOffer k (go 5) (ω 5) ++ (wPlanner k gL u.2.1 (gU 0) ++ (wUses k gU u.2.2.1 ++ (wPlan k gP u.2.2.2.1 (gR 0) ++ (wRem k gR u.2.2.2.2))))))))))))) post := by
  refine Cv.of (by decide) (Nat.le_of_ble_eq_true rfl) ?_
  intro p e s m below meth c A H locs ls C hP hD hS hl
  obtain ⟨hx, hb, hr, hlk, hml, hown, hts, hK, hA⟩ := id C
  replace hl : lv_has ls 1 [(0, .ref (gX 0))] := hl
  unfold wp_Till_findPlan at h
  refine lv_aload_n hx hb d_Till_findPlan_0 rfl (lv_at hl 0 rfl) ?_
  refine va_get (D := D) (ci := 7) (v := .int (θ 7 0)) (C := R_Till) (T := F_Till) (N := 9) hx hb hts in_Till hown hK hP 0 rfl rfl 7 (by decide) (hts _ kw_243) (fun _ h9 => h9) rfl d_Till_findPlan_1 ?_
  refine lv_if_ne (tgt := 57) hx hb d_Till_findPlan_4 (by decide) (fun c1 => ?_) (fun c1 => ?_)
  · replace h := h.1 c1
    exact ret_v (u := (θ, κ, υ, π, ρ)) (wf := (fun u : (St) × (St) × (St) × (St) × (Nat → Int64) => wTill k gX u.1 (gT 0) (gB 0) x_keptUnits (gL 0) (gP 0) x_receipts ++ (wBasket k gB β ++ (wTariff k gT τ (fun i => some (go i 0)) ++ (wOffer k (go 0) (ω 0) ++ (wOffer k (go 1) (ω 1) ++ (wOffer k (go 2) (ω 2) ++ (wOffer k (go 3) (ω 3) ++ (wOffer k (go 4) (ω 4) ++ (wOffer k (go 5) (ω 5) ++ (wPlanner k gL u.2.1 (gU 0) ++ (wUses k gU u.2.2.1 ++ (wPlan k gP u.2.2.2.1 (gR 0) ++ (wRem k gR u.2.2.2.2)))))))))))))) C hP hD hS (Nat.zero_le _) (Nat.zero_le _) h d_Till_findPlan_57
  · replace h := h.2 c1
    refine lv_aload_n hx hb d_Till_findPlan_7 rfl (lv_at hl 0 rfl) ?_
    refine va_get (D := D) (ci := 7) (v := .ref (gP 0)) (C := R_Till) (T := F_Till) (N := 9) hx hb hts in_Till hown hK hP 0 rfl rfl 5 (by decide) (hts _ kw_241) (fun _ h9 => h9) rfl d_Till_findPlan_8 ?_
    refine lv_aload_n hx hb d_Till_findPlan_11 rfl (lv_at hl 0 rfl) ?_
    refine va_get (D := D) (ci := 7) (v := .ref (gT 0)) (C := R_Till) (T := F_Till) (N := 9) hx hb hts in_Till hown hK hP 0 rfl rfl 0 (by decide) (hts _ kw_236) (fun _ h9 => h9) rfl d_Till_findPlan_12 ?_
    refine lv_aload_n hx hb d_Till_findPlan_15 rfl (lv_at hl 0 rfl) ?_
    refine va_get (D := D) (ci := 7) (v := .ref (gB 0)) (C := R_Till) (T := F_Till) (N := 9) hx hb hts in_Till hown hK hP 0 rfl rfl 2 (by decide) (hts _ kw_238) (fun _ h9 => h9) rfl d_Till_findPlan_16 ?_
    refine call_v (wr := [(gX 0, .inr (7, [.ref (gT 0), .ref (gX 1), .ref (gB 0), .ref x_keptUnits, .ref (gL 0), .ref (gP 0), .ref x_receipts, .int (θ 7 0), .int (θ 8 0)])), (gX 1, .inl (k 0, 12, .inl (θ 1))), ((go 0) 0, .inr (1, [.int ((ω 0) 0 0), .int ((ω 0) 1 0), .int ((ω 0) 2 0), .int ((ω 0) 3 0), .int ((ω 0) 4 0), .ref ((go 0) 1)])), ((go 0) 1, .inl (k 0, 4, .inl ((ω 0) 5))), ((go 1) 0, .inr (1, [.int ((ω 1) 0 0), .int ((ω 1) 1 0), .int ((ω 1) 2 0), .int ((ω 1) 3 0), .int ((ω 1) 4 0), .ref ((go 1) 1)])), ((go 1) 1, .inl (k 0, 4, .inl ((ω 1) 5))), ((go 2) 0, .inr (1, [.int ((ω 2) 0 0), .int ((ω 2) 1 0), .int ((ω 2) 2 0), .int ((ω 2) 3 0), .int ((ω 2) 4 0), .ref ((go 2) 1)])), ((go 2) 1, .inl (k 0, 4, .inl ((ω 2) 5))), ((go 3) 0, .inr (1, [.int ((ω 3) 0 0), .int ((ω 3) 1 0), .int ((ω 3) 2 0), .int ((ω 3) 3 0), .int ((ω 3) 4 0), .ref ((go 3) 1)])), ((go 3) 1, .inl (k 0, 4, .inl ((ω 3) 5))), ((go 4) 0, .inr (1, [.int ((ω 4) 0 0), .int ((ω 4) 1 0), .int ((ω 4) 2 0), .int ((ω 4) 3 0), .int ((ω 4) 4 0), .ref ((go 4) 1)])), ((go 4) 1, .inl (k 0, 4, .inl ((ω 4) 5))), ((go 5) 0, .inr (1, [.int ((ω 5) 0 0), .int ((ω 5) 1 0), .int ((ω 5) 2 0), .int ((ω 5) 3 0), .int ((ω 5) 4 0), .ref ((go 5) 1)])), ((go 5) 1, .inl (k 0, 4, .inl ((ω 5) 5))), (gL 0, .inr (3, [.ref (gL 1), .ref (gL 2), .ref (gL 3), .ref (gL 4), .ref (gU 0), .int (κ 5 0)])), (gL 1, .inl (k 0, 18, .inl (κ 0))), (gL 2, .inl (k 0, 18, .inl (κ 1))), (gL 3, .inl (k 0, 18, .inl (κ 2))), (gL 4, .inl (k 0, 3000, .inl (κ 3))), (gU 0, .inr (6, [.ref (gU 1), .ref (gU 2), .ref (gU 3), .ref (gU 4), .ref (gU 5), .ref (gU 6), .ref (gU 7), .ref (gU 8), .int (υ 8 0), .int (υ 9 0)])), (gU 1, .inl (k 0, 1260, .inl (υ 0))), (gU 2, .inl (k 0, 1260, .inl (υ 1))), (gU 3, .inl (k 0, 1260, .inl (υ 2))), (gU 4, .inl (k 0, 1260, .inl (υ 3))), (gU 5, .inl (k 0, 12, .inl (υ 4))), (gU 6, .inl (k 0, 12, .inl (υ 5))), (gU 7, .inl (k 0, 12, .inl (υ 6))), (gU 8, .inl (k 0, 1024, .inl (υ 7)))]) (wn := (fun u2 : (St) => wTill k gX θ (gT 0) (gB 0) x_keptUnits (gL 0) (gP 0) x_receipts ++ (wBasket k gB β ++ (wTariff k gT τ (fun i => some (go i 0)) ++ (wOffer k (go 0) (ω 0) ++ (wOffer k (go 1) (ω 1) ++ (wOffer k (go 2) (ω 2) ++ (wOffer k (go 3) (ω 3) ++ (wOffer k (go 4) (ω 4) ++ (wOffer k (go 5) (ω 5) ++ (wPlanner k gL κ (gU 0) ++ (wUses k gU υ ++ (wPlan k gP u2 (gR 0) ++ (wRem k gR ρ)))))))))))))) C hP hD hS [33, 34, 35, 36, 37, 38, 4, 5, 6, 2, 3] [0, 1, 7, 8, 9, 10, 11, 12, 13, 14, 15, 16, 17, 18, 19, 20, 21, 22, 23, 24, 25, 26, 27, 28, 29, 30, 31, 32] [0, 1, 37, 38, 34, 35, 36, 2, 3, 4, 5, 6, 7, 8, 9, 10, 11, 12, 13, 14, 15, 16, 17, 18, 19, 20, 21, 22, 23, 24, 25, 26, 27, 28, 29, 30, 31, 32, 33] rfl rfl (by decide) (by decide) (fun _ => rfl) (by decide) (runV (As := [.ref (gT 0), .ref (gB 0)]) (rest := []) C (hP.sub [33, 34, 35, 36, 37, 38, 4, 5, 6, 2, 3] rfl) (hD.sub [33, 34, 35, 36, 37, 38, 4, 5, 6, 2, 3] (by decide) rfl) (m_Plan_leaveAllAlone N gP gR gT gB (fun i => some (go i 0)) π ρ τ β   _ h H.size) kw_502 kw_503 kw_504 kw_8 kw_505 hd_Plan_leaveAllAlone ⟨Nat.le_of_ble_eq_true rfl, Nat.le_of_ble_eq_true rfl⟩ ⟨Nat.le_of_ble_eq_true rfl, Nat.le_of_ble_eq_true rfl⟩ 0 rfl rfl rfl rfl hl.1 (Nat.le_of_ble_eq_true rfl) d_Till_findPlan_19) (fun u2 H locs h hP hD hS => ?_)
    try dsimp only at h
    refine lv_aload_n hx hb d_Till_findPlan_22 rfl (lv_at hl 0 rfl) ?_
    refine va_get (D := D) (ci := 7) (v := .ref (gL 0)) (C := R_Till) (T := F_Till) (N := 9) hx hb hts in_Till hown hK hP 0 rfl rfl 4 (by decide) (hts _ kw_240) (fun _ h9 => h9) rfl d_Till_findPlan_23 ?_
    refine lv_aload_n hx hb d_Till_findPlan_26 rfl (lv_at hl 0 rfl) ?_
    refine va_get (D := D) (ci := 7) (v := .ref (gT 0)) (C := R_Till) (T := F_Till) (N := 9) hx hb hts in_Till hown hK hP 0 rfl rfl 0 (by decide) (hts _ kw_236) (fun _ h9 => h9) rfl d_Till_findPlan_27 ?_
    refine lv_aload_n hx hb d_Till_findPlan_30 rfl (lv_at hl 0 rfl) ?_
    refine va_get (D := D) (ci := 7) (v := .ref (gB 0)) (C := R_Till) (T := F_Till) (N := 9) hx hb hts in_Till hown hK hP 0 rfl rfl 2 (by decide) (hts _ kw_238) (fun _ h9 => h9) rfl d_Till_findPlan_31 ?_
    refine call_v (wr := [(gX 0, .inr (7, [.ref (gT 0), .ref (gX 1), .ref (gB 0), .ref x_keptUnits, .ref (gL 0), .ref (gP 0), .ref x_receipts, .int (θ 7 0), .int (θ 8 0)])), (gX 1, .inl (k 0, 12, .inl (θ 1))), (gP 0, .inr (2, [.ref (gP 1), .ref (gP 2), .ref (gP 3), .int (u2 3 0), .ref (gP 4), .ref (gR 0)])), (gP 1, .inl (k 0, 10, .inl (u2 0))), (gP 2, .inl (k 0, 10, .inl (u2 1))), (gP 3, .inl (k 0, 10, .inl (u2 2))), (gP 4, .inl (k 1, 10, .inl (u2 4))), (gR 0, .inl (k 2, 10, .inr (.inl ρ)))]) (wn := (fun u4 : (St) × (St) => wTill k gX θ (gT 0) (gB 0) x_keptUnits (gL 0) (gP 0) x_receipts ++ (wBasket k gB β ++ (wTariff k gT τ (fun i => some (go i 0)) ++ (wOffer k (go 0) (ω 0) ++ (wOffer k (go 1) (ω 1) ++ (wOffer k (go 2) (ω 2) ++ (wOffer k (go 3) (ω 3) ++ (wOffer k (go 4) (ω 4) ++ (wOffer k (go 5) (ω 5) ++ (wPlanner k gL u4.1 (gU 0) ++ (wUses k gU u4.2 ++ (wPlan k gP u2 (gR 0) ++ (wRem k gR ρ)))))))))))))) C hP hD hS [19, 20, 21, 22, 23, 24, 25, 26, 27, 28, 29, 30, 31, 32, 4, 5, 6, 7, 8, 9, 10, 11, 12, 13, 14, 15, 16, 17, 18, 2, 3] [0, 1, 33, 34, 35, 36, 37, 38] [0, 1, 37, 38, 22, 23, 24, 25, 26, 27, 28, 29, 30, 31, 32, 33, 34, 35, 36, 8, 9, 10, 11, 12, 13, 14, 15, 16, 17, 18, 19, 20, 21, 2, 3, 4, 5, 6, 7] rfl rfl (by decide) (by decide) (fun _ => rfl) (by decide) (runV (As := [.ref (gT 0), .ref (gB 0)]) (rest := []) C (hP.sub [19, 20, 21, 22, 23, 24, 25, 26, 27, 28, 29, 30, 31, 32, 4, 5, 6, 7, 8, 9, 10, 11, 12, 13, 14, 15, 16, 17, 18, 2, 3] rfl) (hD.sub [19, 20, 21, 22, 23, 24, 25, 26, 27, 28, 29, 30, 31, 32, 4, 5, 6, 7, 8, 9, 10, 11, 12, 13, 14, 15, 16, 17, 18, 2, 3] (by decide) rfl) (m_Planner_solve N gL gU gT go gB κ υ τ ω β   _ h H.size) kw_506 kw_507 kw_508 kw_6 kw_509 hd_Planner_solve ⟨Nat.le_of_ble_eq_true rfl, Nat.le_of_ble_eq_true rfl⟩ ⟨Nat.le_of_ble_eq_true rfl, Nat.le_of_ble_eq_true rfl⟩ 0 rfl rfl rfl rfl hl.1 (Nat.le_of_ble_eq_true rfl) d_Till_findPlan_34) (fun u4 H locs h hP hD hS => ?_)
    try dsimp only at h
    refine lv_aload_n hx hb d_Till_findPlan_37 rfl (lv_at hl 0 rfl) ?_
    refine va_get (D := D) (ci := 7) (v := .ref (gL 0)) (C := R_Till) (T := F_Till) (N := 9) hx hb hts in_Till hown hK hP 0 rfl rfl 4 (by decide) (hts _ kw_240) (fun _ h9 => h9) rfl d_Till_findPlan_38 ?_
    refine lv_aload_n hx hb d_Till_findPlan_41 rfl (lv_at hl 0 rfl) ?_
    refine va_get (D := D) (ci := 7) (v := .ref (gB 0)) (C := R_Till) (T := F_Till) (N := 9) hx hb hts in_Till hown hK hP 0 rfl rfl 2 (by decide) (hts _ kw_238) (fun _ h9 => h9) rfl d_Till_findPlan_42 ?_
    refine lv_aload_n hx hb d_Till_findPlan_45 rfl (lv_at hl 0 rfl) ?_
    refine va_get (D := D) (ci := 7) (v := .ref (gP 0)) (C := R_Till) (T := F_Till) (N := 9) hx hb hts in_Till hown hK hP 0 rfl rfl 5 (by decide) (hts _ kw_241) (fun _ h9 => h9) rfl d_Till_findPlan_46 ?_
    refine call_v (wr := [(gX 0, .inr (7, [.ref (gT 0), .ref (gX 1), .ref (gB 0), .ref x_keptUnits, .ref (gL 0), .ref (gP 0), .ref x_receipts, .int (θ 7 0), .int (θ 8 0)])), (gX 1, .inl (k 0, 12, .inl (θ 1))), (gT 0, .inr (5, [.ref (gT 1), .ref (gT 2)])), (gT 1, .inl (k 0, 12, .inl (τ 0))), (gT 2, .inl (k 3, 6, .inr (.inr (.inr (.inr (fun i => some (go i 0))))))), ((go 0) 0, .inr (1, [.int ((ω 0) 0 0), .int ((ω 0) 1 0), .int ((ω 0) 2 0), .int ((ω 0) 3 0), .int ((ω 0) 4 0), .ref ((go 0) 1)])), ((go 0) 1, .inl (k 0, 4, .inl ((ω 0) 5))), ((go 1) 0, .inr (1, [.int ((ω 1) 0 0), .int ((ω 1) 1 0), .int ((ω 1) 2 0), .int ((ω 1) 3 0), .int ((ω 1) 4 0), .ref ((go 1) 1)])), ((go 1) 1, .inl (k 0, 4, .inl ((ω 1) 5))), ((go 2) 0, .inr (1, [.int ((ω 2) 0 0), .int ((ω 2) 1 0), .int ((ω 2) 2 0), .int ((ω 2) 3 0), .int ((ω 2) 4 0), .ref ((go 2) 1)])), ((go 2) 1, .inl (k 0, 4, .inl ((ω 2) 5))), ((go 3) 0, .inr (1, [.int ((ω 3) 0 0), .int ((ω 3) 1 0), .int ((ω 3) 2 0), .int ((ω 3) 3 0), .int ((ω 3) 4 0), .ref ((go 3) 1)])), ((go 3) 1, .inl (k 0, 4, .inl ((ω 3) 5))), ((go 4) 0, .inr (1, [.int ((ω 4) 0 0), .int ((ω 4) 1 0), .int ((ω 4) 2 0), .int ((ω 4) 3 0), .int ((ω 4) 4 0), .ref ((go 4) 1)])), ((go 4) 1, .inl (k 0, 4, .inl ((ω 4) 5))), ((go 5) 0, .inr (1, [.int ((ω 5) 0 0), .int ((ω 5) 1 0), .int ((ω 5) 2 0), .int ((ω 5) 3 0), .int ((ω 5) 4 0), .ref ((go 5) 1)])), ((go 5) 1, .inl (k 0, 4, .inl ((ω 5) 5)))]) (wn := (fun u6 : (St) × (St) × (Nat → Int64) => wTill k gX θ (gT 0) (gB 0) x_keptUnits (gL 0) (gP 0) x_receipts ++ (wBasket k gB β ++ (wTariff k gT τ (fun i => some (go i 0)) ++ (wOffer k (go 0) (ω 0) ++ (wOffer k (go 1) (ω 1) ++ (wOffer k (go 2) (ω 2) ++ (wOffer k (go 3) (ω 3) ++ (wOffer k (go 4) (ω 4) ++ (wOffer k (go 5) (ω 5) ++ (wPlanner k gL u6.1 (gU 0) ++ (wUses k gU u4.2 ++ (wPlan k gP u6.2.1 (gR 0) ++ (wRem k gR u6.2.2)))))))))))))) C hP hD hS [19, 20, 21, 22, 23, 24, 25, 26, 27, 28, 29, 30, 31, 32, 2, 3, 33, 34, 35, 36, 37, 38] [0, 1, 4, 5, 6, 7, 8, 9, 10, 11, 12, 13, 14, 15, 16, 17, 18] [0, 1, 31, 32, 2, 3, 4, 5, 6, 7, 8, 9, 10, 11, 12, 13, 14, 15, 16, 17, 18, 19, 20, 21, 22, 23, 24, 25, 26, 27, 28, 29, 30, 33, 34, 35, 36, 37, 38] rfl rfl (by decide) (by decide) (fun _ => rfl) (by decide) (runV (As := [.ref (gB 0), .ref (gP 0)]) (rest := []) C (hP.sub [19, 20, 21, 22, 23, 24, 25, 26, 27, 28, 29, 30, 31, 32, 2, 3, 33, 34, 35, 36, 37, 38] rfl) (hD.sub [19, 20, 21, 22, 23, 24, 25, 26, 27, 28, 29, 30, 31, 32, 2, 3, 33, 34, 35, 36, 37, 38] (by decide) rfl) (m_Planner_fillPlan N gL gU gB gP gR u4.1 u4.2 β u2 ρ   _ h H.size) kw_611 kw_612 kw_613 kw_6 kw_614 hd_Planner_fillPlan ⟨Nat.le_of_ble_eq_true rfl, Nat.le_of_ble_eq_true rfl⟩ ⟨Nat.le_of_ble_eq_true rfl, Nat.le_of_ble_eq_true rfl⟩ 0 rfl rfl rfl rfl hl.1 (Nat.le_of_ble_eq_true rfl) d_Till_findPlan_49) (fun u6 H locs h hP hD hS => ?_)
    try dsimp only at h
    refine lv_aload_n hx hb d_Till_findPlan_52 rfl (lv_at hl 0 rfl) ?_
    refine lv_iconst (v := 1) hx hb d_Till_findPlan_53 (by decide) ?_
    refine va_put (D := D) (ci := 7) (v := .int 1) (ty := .boolean) (C := R_Till) (T := F_Till) (N := 9) hx hb hts in_Till t_Till tt_Till n_Till hown hK hP hD hS 0 rfl rfl 7 (by decide) (hts _ kw_243) (fun _ h9 => h9) rfl (by decide +kernel) rfl rfl (Nat.le_of_ble_eq_true rfl) d_Till_findPlan_54 (fun H locs hP hD hS => ?_)
    obtain ⟨θ8, eθ8⟩ : ∃ z, z = s2 θ 7 0 1 := ⟨_, rfl⟩
    replace hP : va_P D CL (wTill k gX θ8 (gT 0) (gB 0) x_keptUnits (gL 0) (gP 0) x_receipts ++ (wBasket k gB β ++ (wTariff k gT τ (fun i => some (go i 0)) ++ (wOffer k (go 0) (ω 0) ++ (wOffer k (go 1) (ω 1) ++ (wOffer k (go 2) (ω 2) ++ (wOffer k (go 3) (ω 3) ++ (wOffer k (go 4) (ω 4) ++ (wOffer k (go 5) (ω 5) ++ (wPlanner k gL u6.1 (gU 0) ++ (wUses k gU u4.2 ++ (wPlan k gP u6.2.1 (gR 0) ++ (wRem k gR u6.2.2))))))))))))) H := by rw [eθ8]; exact hP
    replace hD : va_D A (wTill k gX θ8 (gT 0) (gB 0) x_keptUnits (gL 0) (gP 0) x_receipts ++ (wBasket k gB β ++ (wTariff k gT τ (fun i => some (go i 0)) ++ (wOffer k (go 0) (ω 0) ++ (wOffer k (go 1) (ω 1) ++ (wOffer k (go 2) (ω 2) ++ (wOffer k (go 3) (ω 3) ++ (wOffer k (go 4) (ω 4) ++ (wOffer k (go 5) (ω 5) ++ (wPlanner k gL u6.1 (gU 0) ++ (wUses k gU u4.2 ++ (wPlan k gP u6.2.1 (gR 0) ++ (wRem k gR u6.2.2))))))))))))) := by rw [eθ8]; exact hD
    replace h := h θ8 eθ8
    exact ret_v (u := (θ8, u6.1, u4.2, u6.2.1, u6.2.2)) (wf := (fun u : (St) × (St) × (St) × (St) × (Nat → Int64) => wTill k gX u.1 (gT 0) (gB 0) x_keptUnits (gL 0) (gP 0) x_receipts ++ (wBasket k gB β ++ (wTariff k gT τ (fun i => some (go i 0)) ++ (wOffer k (go 0) (ω 0) ++ (wOffer k (go 1) (ω 1) ++ (wOffer k (go 2) (ω 2) ++ (wOffer k (go 3) (ω 3) ++ (wOffer k (go 4) (ω 4) ++ (wOffer k (go 5) (ω 5) ++ (wPlanner k gL u.2.1 (gU 0) ++ (wUses k gU u.2.2.1 ++ (wPlan k gP u.2.2.2.1 (gR 0) ++ (wRem k gR u.2.2.2.2)))))))))))))) C hP hD hS (Nat.zero_le _) (Nat.zero_le _) h d_Till_findPlan_57
set_option maxHeartbeats 4000000 in
set_option maxRecDepth 100000 in
theorem m_Till_total {l : Launch} {D : va_G} {k : Nat → ClassId} (hlt : l.stackTraces = false) (N : Nat) (gX : Nat → Nat) (gB : Nat → Nat) (gT : Nat → Nat) (go : Nat → Nat → Nat) (gL : Nat → Nat) (gU : Nat → Nat) (gP : Nat → Nat) (gR : Nat → Nat) (x_keptUnits : Nat) (x_receipts : Nat) (θ : St) (β : St) (τ : St) (ω : Nat → St) (κ : St) (υ : St) (π : St) (ρ : Nat → Int64) (x1 : Int32) (post : Int32 → ((St) × (St) × (St) × (St) × (Nat → Int64)) → Prop) (xp : String → ((St) × (St) × (St) × (St) × (Nat → Int64)) → Prop) (h : wp_Till_total N  θ β τ ω κ υ π ρ x1 post xp) : CX l D k y_Till_total b_Till_total 2 (some .int) rm_Till_total [.ref (gX 0), .int x1] (wTill k gX θ (gT 0) (gB 0) x_keptUnits (gL 0) (gP 0) x_receipts ++ (wBasket k gB β ++ (wTariff k gT τ (fun i => some (go i 0)) ++ (wOffer k (go 0) (ω 0) ++ (wOffer k (go 1) (ω 1) ++ (wOffer k (go 2) (ω 2) ++ (wOffer k (go 3) (ω 3) ++ (wOffer k (go 4) (ω 4) ++ (wOffer k (go 5) (ω 5) ++ (wPlanner k gL κ (gU 0) ++ (wUses k gU υ ++ (wPlan k gP π (gR 0) ++ (wRem k gR ρ))))))))))))) (fun u : (St) × (St) × (St) × (St) × (Nat → Int64) => wTill k gX u.1 (gT 0) (gB 0) x_keptUnits (gL 0) (gP 0) x_receipts ++ (wBasket k gB β ++ (wTariff k gT τ (fun i => some (go i 0)) ++ (wOffer k (go 0) (ω 0) ++ (wOffer k (go 1) (ω 1) ++ (wOffer k (go 2) (ω 2) ++ (wOffer k (go 3) (ω 3) ++ (wOffer k (go 4) (ω 4) ++ (wOffer k (go 5) (ω 5) ++ (wPlanner k gL u.2.1 (gU 0) ++ (wUses k gU u.2.2.1 ++ (wPlan k gP u.2.2.2.1 (gR 0) ++ (wRem k gR u.2.2.2.2))))))))))))) (fun v (u : (St) × (St) × (St) × (St) × (Nat → Int64)) => ∃ r : Int32, v = some (.int r) ∧ post r u) xp := by
  refine CX.of (by decide) (Nat.le_of_ble_eq_true rfl) ?_
  intro p e s m below meth c A H locs ls C hX hcx hP hD hS hl
  obtain ⟨hx, hb, hr, hlk, hml, hown, hts, hK, hA⟩ := id C
  obtain ⟨t9, hZ9, hT9, hE9⟩ := id hX.2
  replace hl : lv_has ls 2 [(0, .ref (gX 0)), (1, .int x1)] := hl
  unfold wp_Till_total at h
  refine lv_iload_n hx hb d_Till_total_0 rfl (lv_at hl 1 rfl) ?_
  refine lv_iconst (v := 0) hx hb d_Till_total_1 (by decide) ?_
  refine lv_iconst (v := 2) hx hb d_Till_total_2 (by decide) ?_
  refine none_i C hP hD hS (runS (As := [.int x1, .int 0, .int 2]) (rest := []) C nilP nilD (m_Till_within N   x1 0 2  _ h H.size) kw_276 kw_277 kw_1 kw_278 (hd_Till_within).2 ⟨Nat.le_of_ble_eq_true rfl, Nat.le_of_ble_eq_true rfl⟩ ⟨Nat.le_of_ble_eq_true rfl, Nat.le_of_ble_eq_true rfl⟩ rfl hl.1 (Nat.le_of_ble_eq_true rfl) d_Till_total_3) (fun r2 u1 H locs h hP hD hS => ?_)
  try dsimp only at h
  refine callXS (As := [.int r2]) (rest := []) C hX hS (Jn.none (S := Unit) hP hD hS hA) (m_Till_requireArgument hlt N   r2  _ _ h) kw_279 kw_280 kw_1 kw_281 (hd_Till_requireArgument).2 rfl ⟨Nat.le_of_ble_eq_true rfl, Nat.le_of_ble_eq_true rfl⟩ ⟨Nat.le_of_ble_eq_true rfl, Nat.le_of_ble_eq_true rfl⟩ hl.1 (Nat.le_of_ble_eq_true rfl) d_Till_total_6 (fun v9 u3 H locs h hP hD hS => ?_) (fun q9 E9 u9 ce9 H locs h hP hD hS hce9 hcv9 hcl9 => ?_)
  rotate_left
  · exact outX (u := (θ, κ, υ, π, ρ)) (wf := (fun u : (St) × (St) × (St) × (St) × (Nat → Int64) => wTill k gX u.1 (gT 0) (gB 0) x_keptUnits (gL 0) (gP 0) x_receipts ++ (wBasket k gB β ++ (wTariff k gT τ (fun i => some (go i 0)) ++ (wOffer k (go 0) (ω 0) ++ (wOffer k (go 1) (ω 1) ++ (wOffer k (go 2) (ω 2) ++ (wOffer k (go 3) (ω 3) ++ (wOffer k (go 4) (ω 4) ++ (wOffer k (go 5) (ω 5) ++ (wPlanner k gL u.2.1 (gU 0) ++ (wUses k gU u.2.2.1 ++ (wPlan k gP u.2.2.2.1 (gR 0) ++ (wRem k gR u.2.2.2.2)))))))))))))) C hcx hP hD hS hce9 hcv9 hcl9 (Nat.le_of_ble_eq_true rfl) (Nat.le_of_ble_eq_true rfl) h
  obtain ⟨rfl, h⟩ := h
  refine W.eq (g2 := F0 m 9 ls []) rfl ?_
  replace hP : va_P D CL (wTill k gX θ (gT 0) (gB 0) x_keptUnits (gL 0) (gP 0) x_receipts ++ (wBasket k gB β ++ (wTariff k gT τ (fun i => some (go i 0)) ++ (wOffer k (go 0) (ω 0) ++ (wOffer k (go 1) (ω 1) ++ (wOffer k (go 2) (ω 2) ++ (wOffer k (go 3) (ω 3) ++ (wOffer k (go 4) (ω 4) ++ (wOffer k (go 5) (ω 5) ++ (wPlanner k gL κ (gU 0) ++ (wUses k gU υ ++ (wPlan k gP π (gR 0) ++ (wRem k gR ρ))))))))))))) H := hP
  replace hD : va_D A (wTill k gX θ (gT 0) (gB 0) x_keptUnits (gL 0) (gP 0) x_receipts ++ (wBasket k gB β ++ (wTariff k gT τ (fun i => some (go i 0)) ++ (wOffer k (go 0) (ω 0) ++ (wOffer k (go 1) (ω 1) ++ (wOffer k (go 2) (ω 2) ++ (wOffer k (go 3) (ω 3) ++ (wOffer k (go 4) (ω 4) ++ (wOffer k (go 5) (ω 5) ++ (wPlanner k gL κ (gU 0) ++ (wUses k gU υ ++ (wPlan k gP π (gR 0) ++ (wRem k gR ρ))))))))))))) := hD
  try dsimp only at h
  refine lv_iload_n hx hb d_Till_total_9 rfl (lv_at hl 1 rfl) ?_
  refine lv_iconst (v := 1) hx hb d_Till_total_10 (by decide) ?_
  refine lv_icmp_ne (tgt := 26) hx hb d_Till_total_11 (by decide) (fun c5 => ?_) (fun c5 => ?_)
  · replace h := h.1 c5
    refine lv_aload_n hx hb d_Till_total_26 rfl (lv_at hl 0 rfl) ?_
    refine same_v C hP hD hS (runV (As := []) (rest := []) C hP hD (m_Till_findPlan N gX gB gT go gL gU gP gR x_keptUnits x_receipts θ β τ ω κ υ π ρ   _ h H.size) kw_498 kw_500 kp_2 kw_1 kw_501 hd_Till_findPlan ⟨Nat.le_of_ble_eq_true rfl, Nat.le_of_ble_eq_true rfl⟩ ⟨Nat.le_of_ble_eq_true rfl, Nat.le_of_ble_eq_true rfl⟩ 0 rfl rfl rfl rfl hl.1 (Nat.le_of_ble_eq_true rfl) d_Till_total_27) (fun u6 H locs h hP hD hS => ?_)
    replace hP : va_P D CL (wTill k gX u6.1 (gT 0) (gB 0) x_keptUnits (gL 0) (gP 0) x_receipts ++ (wBasket k gB β ++ (wTariff k gT τ (fun i => some (go i 0)) ++ (wOffer k (go 0) (ω 0) ++ (wOffer k (go 1) (ω 1) ++ (wOffer k (go 2) (ω 2) ++ (wOffer k (go 3) (ω 3) ++ (wOffer k (go 4) (ω 4) ++ (wOffer k (go 5) (ω 5) ++ (wPlanner k gL u6.2.1 (gU 0) ++ (wUses k gU u6.2.2.1 ++ (wPlan k gP u6.2.2.2.1 (gR 0) ++ (wRem k gR u6.2.2.2.2))))))))))))) H := hP
    replace hD : va_D A (wTill k gX u6.1 (gT 0) (gB 0) x_keptUnits (gL 0) (gP 0) x_receipts ++ (wBasket k gB β ++ (wTariff k gT τ (fun i => some (go i 0)) ++ (wOffer k (go 0) (ω 0) ++ (wOffer k (go 1) (ω 1) ++ (wOffer k (go 2) (ω 2) ++ (wOffer k (go 3) (ω 3) ++ (wOffer k (go 4) (ω 4) ++ (wOffer k (go 5) (ω 5) ++ (wPlanner k gL u6.2.1 (gU 0) ++ (wUses k gU u6.2.2.1 ++ (wPlan k gP u6.2.2.2.1 (gR 0) ++ (wRem k gR u6.2.2.2.2))))))))))))) := hD
    try dsimp only at h
    refine lv_iload_n hx hb d_Till_total_30 rfl (lv_at hl 1 rfl) ?_
    refine lv_if_ne (tgt := 48) hx hb d_Till_total_31 (by decide) (fun c8 => ?_) (fun c8 => ?_)
    · replace h := h.1 c8
      refine lv_aload_n hx hb d_Till_total_48 rfl (lv_at hl 0 rfl) ?_
      refine va_get (D := D) (ci := 7) (v := .ref (gP 0)) (C := R_Till) (T := F_Till) (N := 9) hx hb hts in_Till hown hK hP 0 rfl rfl 5 (by decide) (hts _ kw_241) (fun _ h9 => h9) rfl d_Till_total_49 ?_
      refine va_get (D := D) (ci := 2) (v := .int (u6.2.2.2.1 3 0)) (C := R_Plan) (T := F_Plan) (N := 6) hx hb hts in_Plan hown hK hP 33 rfl rfl 3 (by decide) (hts _ kw_192) (fun _ h9 => h9) rfl d_Till_total_52 ?_
      exact retX_i (u := (u6.1, u6.2.1, u6.2.2.1, u6.2.2.2.1, u6.2.2.2.2)) (wf := (fun u : (St) × (St) × (St) × (St) × (Nat → Int64) => wTill k gX u.1 (gT 0) (gB 0) x_keptUnits (gL 0) (gP 0) x_receipts ++ (wBasket k gB β ++ (wTariff k gT τ (fun i => some (go i 0)) ++ (wOffer k (go 0) (ω 0) ++ (wOffer k (go 1) (ω 1) ++ (wOffer k (go 2) (ω 2) ++ (wOffer k (go 3) (ω 3) ++ (wOffer k (go 4) (ω 4) ++ (wOffer k (go 5) (ω 5) ++ (wPlanner k gL u.2.1 (gU 0) ++ (wUses k gU u.2.2.1 ++ (wPlan k gP u.2.2.2.1 (gR 0) ++ (wRem k gR u.2.2.2.2)))))))))))))) C hP hD hS (Nat.le_of_ble_eq_true rfl) (Nat.le_of_ble_eq_true rfl) ⟨_, rfl, h⟩ d_Till_total_55
    · replace h := h.2 c8
      refine lv_aload_n hx hb d_Till_total_34 rfl (lv_at hl 0 rfl) ?_
      refine va_get (D := D) (ci := 7) (v := .ref (gP 0)) (C := R_Till) (T := F_Till) (N := 9) hx hb hts in_Till hown hK hP 0 rfl rfl 5 (by decide) (hts _ kw_241) (fun _ h9 => h9) rfl d_Till_total_35 ?_
      refine lv_aload_n hx hb d_Till_total_38 rfl (lv_at hl 0 rfl) ?_
      refine va_get (D := D) (ci := 7) (v := .ref (gB 0)) (C := R_Till) (T := F_Till) (N := 9) hx hb hts in_Till hown hK hP 0 rfl rfl 2 (by decide) (hts _ kw_238) (fun _ h9 => h9) rfl d_Till_total_39 ?_
      refine call_i (wr := [(gX 0, .inr (7, [.ref (gT 0), .ref (gX 1), .ref (gB 0), .ref x_keptUnits, .ref (gL 0), .ref (gP 0), .ref x_receipts, .int (u6.1 7 0), .int (u6.1 8 0)])), (gX 1, .inl (k 0, 12, .inl (u6.1 1))), (gT 0, .inr (5, [.ref (gT 1), .ref (gT 2)])), (gT 1, .inl (k 0, 12, .inl (τ 0))), (gT 2, .inl (k 3, 6, .inr (.inr (.inr (.inr (fun i => some (go i 0))))))), ((go 0) 0, .inr (1, [.int ((ω 0) 0 0), .int ((ω 0) 1 0), .int ((ω 0) 2 0), .int ((ω 0) 3 0), .int ((ω 0) 4 0), .ref ((go 0) 1)])), ((go 0) 1, .inl (k 0, 4, .inl ((ω 0) 5))), ((go 1) 0, .inr (1, [.int ((ω 1) 0 0), .int ((ω 1) 1 0), .int ((ω 1) 2 0), .int ((ω 1) 3 0), .int ((ω 1) 4 0), .ref ((go 1) 1)])), ((go 1) 1, .inl (k 0, 4, .inl ((ω 1) 5))), ((go 2) 0, .inr (1, [.int ((ω 2) 0 0), .int ((ω 2) 1 0), .int ((ω 2) 2 0), .int ((ω 2) 3 0), .int ((ω 2) 4 0), .ref ((go 2) 1)])), ((go 2) 1, .inl (k 0, 4, .inl ((ω 2) 5))), ((go 3) 0, .inr (1, [.int ((ω 3) 0 0), .int ((ω 3) 1 0), .int ((ω 3) 2 0), .int ((ω 3) 3 0), .int ((ω 3) 4 0), .ref ((go 3) 1)])), ((go 3) 1, .inl (k 0, 4, .inl ((ω 3) 5))), ((go 4) 0, .inr (1, [.int ((ω 4) 0 0), .int ((ω 4) 1 0), .int ((ω 4) 2 0), .int ((ω 4) 3 0), .int ((ω 4) 4 0), .ref ((go 4) 1)])), ((go 4) 1, .inl (k 0, 4, .inl ((ω 4) 5))), ((go 5) 0, .inr (1, [.int ((ω 5) 0 0), .int ((ω 5) 1 0), .int ((ω 5) 2 0), .int ((ω 5) 3 0), .int ((ω 5) 4 0), .ref ((go 5) 1)])), ((go 5) 1, .inl (k 0, 4, .inl ((ω 5) 5))), (gL 0, .inr (3, [.ref (gL 1), .ref (gL 2), .ref (gL 3), .ref (gL 4), .ref (gU 0), .int (u6.2.1 5 0)])), (gL 1, .inl (k 0, 18, .inl (u6.2.1 0))), (gL 2, .inl (k 0, 18, .inl (u6.2.1 1))), (gL 3, .inl (k 0, 18, .inl (u6.2.1 2))), (gL 4, .inl (k 0, 3000, .inl (u6.2.1 3))), (gU 0, .inr (6, [.ref (gU 1), .ref (gU 2), .ref (gU 3), .ref (gU 4), .ref (gU 5), .ref (gU 6), .ref (gU 7), .ref (gU 8), .int (u6.2.2.1 8 0), .int (u6.2.2.1 9 0)])), (gU 1, .inl (k 0, 1260, .inl (u6.2.2.1 0))), (gU 2, .inl (k 0, 1260, .inl (u6.2.2.1 1))), (gU 3, .inl (k 0, 1260, .inl (u6.2.2.1 2))), (gU 4, .inl (k 0, 1260, .inl (u6.2.2.1 3))), (gU 5, .inl (k 0, 12, .inl (u6.2.2.1 4))), (gU 6, .inl (k 0, 12, .inl (u6.2.2.1 5))), (gU 7, .inl (k 0, 12, .inl (u6.2.2.1 6))), (gU 8, .inl (k 0, 1024, .inl (u6.2.2.1 7)))]) (wn := (fun u9 : Unit => wTill k gX u6.1 (gT 0) (gB 0) x_keptUnits (gL 0) (gP 0) x_receipts ++ (wBasket k gB β ++ (wTariff k gT τ (fun i => some (go i 0)) ++ (wOffer k (go 0) (ω 0) ++ (wOffer k (go 1) (ω 1) ++ (wOffer k (go 2) (ω 2) ++ (wOffer k (go 3) (ω 3) ++ (wOffer k (go 4) (ω 4) ++ (wOffer k (go 5) (ω 5) ++ (wPlanner k gL u6.2.1 (gU 0) ++ (wUses k gU u6.2.2.1 ++ (wPlan k gP u6.2.2.2.1 (gR 0) ++ (wRem k gR u6.2.2.2.2)))))))))))))) C hP hD hS [33, 34, 35, 36, 37, 38, 2, 3] [0, 1, 4, 5, 6, 7, 8, 9, 10, 11, 12, 13, 14, 15, 16, 17, 18, 19, 20, 21, 22, 23, 24, 25, 26, 27, 28, 29, 30, 31, 32] [0, 1, 37, 38, 2, 3, 4, 5, 6, 7, 8, 9, 10, 11, 12, 13, 14, 15, 16, 17, 18, 19, 20, 21, 22, 23, 24, 25, 26, 27, 28, 29, 30, 31, 32, 33, 34, 35, 36] rfl rfl (by decide) (by decide) (fun _ => rfl) (by decide) (runV (As := [.ref (gB 0)]) (rest := []) C (hP.sub [33, 34, 35, 36, 37, 38, 2, 3] rfl) (hD.sub [33, 34, 35, 36, 37, 38, 2, 3] (by decide) rfl) (m_Plan_paidIn N gP gR gB u6.2.2.2.1 u6.2.2.2.2 β   _ h H.size) kw_651 kw_652 kw_653 kw_8 kw_654 hd_Plan_paidIn ⟨Nat.le_of_ble_eq_true rfl, Nat.le_of_ble_eq_true rfl⟩ ⟨Nat.le_of_ble_eq_true rfl, Nat.le_of_ble_eq_true rfl⟩ 0 rfl rfl rfl rfl hl.1 (Nat.le_of_ble_eq_true rfl) d_Till_total_42) (fun r10 u9 H locs h hP hD hS => ?_)
      try dsimp only at h
      refine lv_goto (tgt := 55) hx hb d_Till_total_45 (by decide) ?_
      exact retX_i (u := (u6.1, u6.2.1, u6.2.2.1, u6.2.2.2.1, u6.2.2.2.2)) (wf := (fun u : (St) × (St) × (St) × (St) × (Nat → Int64) => wTill k gX u.1 (gT 0) (gB 0) x_keptUnits (gL 0) (gP 0) x_receipts ++ (wBasket k gB β ++ (wTariff k gT τ (fun i => some (go i 0)) ++ (wOffer k (go 0) (ω 0) ++ (wOffer k (go 1) (ω 1) ++ (wOffer k (go 2) (ω 2) ++ (wOffer k (go 3) (ω 3) ++ (wOffer k (go 4) (ω 4) ++ (wOffer k (go 5) (ω 5) ++ (wPlanner k gL u.2.1 (gU 0) ++ (wUses k gU u.2.2.1 ++ (wPlan k gP u.2.2.2.1 (gR 0) ++ (wRem k gR u.2.2.2.2)))))))))))))) C hP hD hS (Nat.le_of_ble_eq_true rfl) (Nat.le_of_ble_eq_true rfl) ⟨_, rfl, h⟩ d_Till_total_55
  · replace h := h.2 c5
    refine lv_aload_n hx hb d_Till_total_14 rfl (lv_at hl 0 rfl) ?_
    refine va_get (D := D) (ci := 7) (v := .ref (gB 0)) (C := R_Till) (T := F_Till) (N := 9) hx hb hts in_Till hown hK hP 0 rfl rfl 2 (by decide) (hts _ kw_238) (fun _ h9 => h9) rfl d_Till_total_15 ?_
    refine lv_aload_n hx hb d_Till_total_18 rfl (lv_at hl 0 rfl) ?_
    refine va_get (D := D) (ci := 7) (v := .ref (gT 0)) (C := R_Till) (T := F_Till) (N := 9) hx hb hts in_Till hown hK hP 0 rfl rfl 0 (by decide) (hts _ kw_236) (fun _ h9 => h9) rfl d_Till_total_19 ?_
    refine call_i (wr := [(gX 0, .inr (7, [.ref (gT 0), .ref (gX 1), .ref (gB 0), .ref x_keptUnits, .ref (gL 0), .ref (gP 0), .ref x_receipts, .int (θ 7 0), .int (θ 8 0)])), (gX 1, .inl (k 0, 12, .inl (θ 1))), ((go 0) 0, .inr (1, [.int ((ω 0) 0 0), .int ((ω 0) 1 0), .int ((ω 0) 2 0), .int ((ω 0) 3 0), .int ((ω 0) 4 0), .ref ((go 0) 1)])), ((go 0) 1, .inl (k 0, 4, .inl ((ω 0) 5))), ((go 1) 0, .inr (1, [.int ((ω 1) 0 0), .int ((ω 1) 1 0), .int ((ω 1) 2 0), .int ((ω 1) 3 0), .int ((ω 1) 4 0), .ref ((go 1) 1)])), ((go 1) 1, .inl (k 0, 4, .inl ((ω 1) 5))), ((go 2) 0, .inr (1, [.int ((ω 2) 0 0), .int ((ω 2) 1 0), .int ((ω 2) 2 0), .int ((ω 2) 3 0), .int ((ω 2) 4 0), .ref ((go 2) 1)])), ((go 2) 1, .inl (k 0, 4, .inl ((ω 2) 5))), ((go 3) 0, .inr (1, [.int ((ω 3) 0 0), .int ((ω 3) 1 0), .int ((ω 3) 2 0), .int ((ω 3) 3 0), .int ((ω 3) 4 0), .ref ((go 3) 1)])), ((go 3) 1, .inl (k 0, 4, .inl ((ω 3) 5))), ((go 4) 0, .inr (1, [.int ((ω 4) 0 0), .int ((ω 4) 1 0), .int ((ω 4) 2 0), .int ((ω 4) 3 0), .int ((ω 4) 4 0), .ref ((go 4) 1)])), ((go 4) 1, .inl (k 0, 4, .inl ((ω 4) 5))), ((go 5) 0, .inr (1, [.int ((ω 5) 0 0), .int ((ω 5) 1 0), .int ((ω 5) 2 0), .int ((ω 5) 3 0), .int ((ω 5) 4 0), .ref ((go 5) 1)])), ((go 5) 1, .inl (k 0, 4, .inl ((ω 5) 5))), (gL 0, .inr (3, [.ref (gL 1), .ref (gL 2), .ref (gL 3), .ref (gL 4), .ref (gU 0), .int (κ 5 0)])), (gL 1, .inl (k 0, 18, .inl (κ 0))), (gL 2, .inl (k 0, 18, .inl (κ 1))), (gL 3, .inl (k 0, 18, .inl (κ 2))), (gL 4, .inl (k 0, 3000, .inl (κ 3))), (gU 0, .inr (6, [.ref (gU 1), .ref (gU 2), .ref (gU 3), .ref (gU 4), .ref (gU 5), .ref (gU 6), .ref (gU 7), .ref (gU 8), .int (υ 8 0), .int (υ 9 0)])), (gU 1, .inl (k 0, 1260, .inl (υ 0))), (gU 2, .inl (k 0, 1260, .inl (υ 1))), (gU 3, .inl (k 0, 1260, .inl (υ 2))), (gU 4, .inl (k 0, 1260, .inl (υ 3))), (gU 5, .inl (k 0, 12, .inl (υ 4))), (gU 6, .inl (k 0, 12, .inl (υ 5))), (gU 7, .inl (k 0, 12, .inl (υ 6))), (gU 8, .inl (k 0, 1024, .inl (υ 7))), (gP 0, .inr (2, [.ref (gP 1), .ref (gP 2), .ref (gP 3), .int (π 3 0), .ref (gP 4), .ref (gR 0)])), (gP 1, .inl (k 0, 10, .inl (π 0))), (gP 2, .inl (k 0, 10, .inl (π 1))), (gP 3, .inl (k 0, 10, .inl (π 2))), (gP 4, .inl (k 1, 10, .inl (π 4))), (gR 0, .inl (k 2, 10, .inr (.inl ρ)))]) (wn := (fun u11 : Unit => wTill k gX θ (gT 0) (gB 0) x_keptUnits (gL 0) (gP 0) x_receipts ++ (wBasket k gB β ++ (wTariff k gT τ (fun i => some (go i 0)) ++ (wOffer k (go 0) (ω 0) ++ (wOffer k (go 1) (ω 1) ++ (wOffer k (go 2) (ω 2) ++ (wOffer k (go 3) (ω 3) ++ (wOffer k (go 4) (ω 4) ++ (wOffer k (go 5) (ω 5) ++ (wPlanner k gL κ (gU 0) ++ (wUses k gU υ ++ (wPlan k gP π (gR 0) ++ (wRem k gR ρ)))))))))))))) C hP hD hS [2, 3, 4, 5, 6] [0, 1, 7, 8, 9, 10, 11, 12, 13, 14, 15, 16, 17, 18, 19, 20, 21, 22, 23, 24, 25, 26, 27, 28, 29, 30, 31, 32, 33, 34, 35, 36, 37, 38] [0, 1, 34, 35, 36, 37, 38, 2, 3, 4, 5, 6, 7, 8, 9, 10, 11, 12, 13, 14, 15, 16, 17, 18, 19, 20, 21, 22, 23, 24, 25, 26, 27, 28, 29, 30, 31, 32, 33] rfl rfl (by decide) (by decide) (fun _ => rfl) (by decide) (runV (As := [.ref (gT 0)]) (rest := []) C (hP.sub [2, 3, 4, 5, 6] rfl) (hD.sub [2, 3, 4, 5, 6] (by decide) rfl) (m_Basket_priceIn N gB gT (fun i => some (go i 0)) β τ   _ h H.size) kw_494 kw_495 kw_496 kw_5 kw_497 hd_Basket_priceIn ⟨Nat.le_of_ble_eq_true rfl, Nat.le_of_ble_eq_true rfl⟩ ⟨Nat.le_of_ble_eq_true rfl, Nat.le_of_ble_eq_true rfl⟩ 0 rfl rfl rfl rfl hl.1 (Nat.le_of_ble_eq_true rfl) d_Till_total_22) (fun r12 u11 H locs h hP hD hS => ?_)
    try dsimp only at h
    exact retX_i (u := (θ, κ, υ, π, ρ)) (wf := (fun u : (St) × (St) × (St) × (St) × (Nat → Int64) => wTill k gX u.1 (gT 0) (gB 0) x_keptUnits (gL 0) (gP 0) x_receipts ++ (wBasket k gB β ++ (wTariff k gT τ (fun i => some (go i 0)) ++ (wOffer k (go 0) (ω 0) ++ (wOffer k (go 1) (ω 1) ++ (wOffer k (go 2) (ω 2) ++ (wOffer k (go 3) (ω 3) ++ (wOffer k (go 4) (ω 4) ++ (wOffer k (go 5) (ω 5) ++ (wPlanner k gL u.2.1 (gU 0) ++ (wUses k gU u.2.2.1 ++ (wPlan k gP u.2.2.2.1 (gR 0) ++ (wRem k gR u.2.2.2.2)))))))))))))) C hP hD hS (Nat.le_of_ble_eq_true rfl) (Nat.le_of_ble_eq_true rfl) ⟨_, rfl, h⟩ d_Till_total_25
set_option maxHeartbeats 4000000 in
set_option maxRecDepth 100000 in
theorem m_Till_unit {l : Launch} {D : va_G} {k : Nat → ClassId} (hlt : l.stackTraces = false) (N : Nat) (gX : Nat → Nat) (gB : Nat → Nat) (gT : Nat → Nat) (go : Nat → Nat → Nat) (gL : Nat → Nat) (gU : Nat → Nat) (gP : Nat → Nat) (gR : Nat → Nat) (x_keptUnits : Nat) (x_receipts : Nat) (θ : St) (β : St) (τ : St) (ω : Nat → St) (κ : St) (υ : St) (π : St) (ρ : Nat → Int64) (x1 : Int32) (x2 : Int32) (post : Int32 → ((St) × (St) × (St) × (St) × (Nat → Int64)) → Prop) (xp : String → ((St) × (St) × (St) × (St) × (Nat → Int64)) → Prop) (h : wp_Till_unit N  θ β τ ω κ υ π ρ x1 x2 post xp) : CX l D k y_Till_unit b_Till_unit 3 (some .int) rm_Till_unit [.ref (gX 0), .int x1, .int x2] (wTill k gX θ (gT 0) (gB 0) x_keptUnits (gL 0) (gP 0) x_receipts ++ (wBasket k gB β ++ (wTariff k gT τ (fun i => some (go i 0)) ++ (wOffer k (go 0) (ω 0) ++ (wOffer k (go 1) (ω 1) ++ (wOffer k (go 2) (ω 2) ++ (wOffer k (go 3) (ω 3) ++ (wOffer k (go 4) (ω 4) ++ (wOffer k (go 5) (ω 5) ++ (wPlanner k gL κ (gU 0) ++ (wUses k gU υ ++ (wPlan k gP π (gR 0) ++ (wRem k gR ρ))))))))))))) (fun u : (St) × (St) × (St) × (St) × (Nat → Int64) => wTill k gX u.1 (gT 0) (gB 0) x_keptUnits (gL 0) (gP 0) x_receipts ++ (wBasket k gB β ++ (wTariff k gT τ (fun i => some (go i 0)) ++ (wOffer k (go 0) (ω 0) ++ (wOffer k (go 1) (ω 1) ++ (wOffer k (go 2) (ω 2) ++ (wOffer k (go 3) (ω 3) ++ (wOffer k (go 4) (ω 4) ++ (wOffer k (go 5) (ω 5) ++ (wPlanner k gL u.2.1 (gU 0) ++ (wUses k gU u.2.2.1 ++ (wPlan k gP u.2.2.2.1 (gR 0) ++ (wRem k gR u.2.2.2.2))))))))))))) (fun v (u : (St) × (St) × (St) × (St) × (Nat → Int64)) => ∃ r : Int32, v = some (.int r) ∧ post r u) xp := by
  refine CX.of (by decide) (Nat.le_of_ble_eq_true rfl) ?_
  intro p e s m below meth c A H locs ls C hX hcx hP hD hS hl
  obtain ⟨hx, hb, hr, hlk, hml, hown, hts, hK, hA⟩ := id C
  obtain ⟨t9, hZ9, hT9, hE9⟩ := id hX.2
  replace hl : lv_has ls 3 [(0, .ref (gX 0)), (1, .int x1), (2, .int x2)] := hl
  unfold wp_Till_unit at h
  refine lv_iload_n hx hb d_Till_unit_0 rfl (lv_at hl 1 rfl) ?_
  refine lv_aload_n hx hb d_Till_unit_1 rfl (lv_at hl 0 rfl) ?_
  refine va_get (D := D) (ci := 7) (v := .ref (gB 0)) (C := R_Till) (T := F_Till) (N := 9) hx hb hts in_Till hown hK hP 0 rfl rfl 2 (by decide) (hts _ kw_238) (fun _ h9 => h9) rfl d_Till_unit_2 ?_
  refine va_get (D := D) (ci := 0) (v := .int (β 1 0)) (C := R_Basket) (T := F_Basket) (N := 2) hx hb hts in_Basket hown hK hP 2 rfl rfl 1 (by decide) (hts _ kw_109) (fun _ h9 => h9) rfl d_Till_unit_5 ?_
  refine callXS (As := [.int x1, .int (β 1 0)]) (rest := []) C hX hS (Jn.none (S := Unit) hP hD hS hA) (m_Till_requireIndex hlt N   x1 (β 1 0)  _ _ h) kw_468 kw_469 kw_1 kw_470 (hd_Till_requireIndex).2 rfl ⟨Nat.le_of_ble_eq_true rfl, Nat.le_of_ble_eq_true rfl⟩ ⟨Nat.le_of_ble_eq_true rfl, Nat.le_of_ble_eq_true rfl⟩ hl.1 (Nat.le_of_ble_eq_true rfl) d_Till_unit_8 (fun v9 u1 H locs h hP hD hS => ?_) (fun q9 E9 u9 ce9 H locs h hP hD hS hce9 hcv9 hcl9 => ?_)
  rotate_left
  · exact outX (u := (θ, κ, υ, π, ρ)) (wf := (fun u : (St) × (St) × (St) × (St) × (Nat → Int64) => wTill k gX u.1 (gT 0) (gB 0) x_keptUnits (gL 0) (gP 0) x_receipts ++ (wBasket k gB β ++ (wTariff k gT τ (fun i => some (go i 0)) ++ (wOffer k (go 0) (ω 0) ++ (wOffer k (go 1) (ω 1) ++ (wOffer k (go 2) (ω 2) ++ (wOffer k (go 3) (ω 3) ++ (wOffer k (go 4) (ω 4) ++ (wOffer k (go 5) (ω 5) ++ (wPlanner k gL u.2.1 (gU 0) ++ (wUses k gU u.2.2.1 ++ (wPlan k gP u.2.2.2.1 (gR 0) ++ (wRem k gR u.2.2.2.2)))))))))))))) C hcx hP hD hS hce9 hcv9 hcl9 (Nat.le_of_ble_eq_true rfl) (Nat.le_of_ble_eq_true rfl) h
  obtain ⟨rfl, h⟩ := h
  refine W.eq (g2 := F0 m 11 ls []) rfl ?_
  replace hP : va_P D CL (wTill k gX θ (gT 0) (gB 0) x_keptUnits (gL 0) (gP 0) x_receipts ++ (wBasket k gB β ++ (wTariff k gT τ (fun i => some (go i 0)) ++ (wOffer k (go 0) (ω 0) ++ (wOffer k (go 1) (ω 1) ++ (wOffer k (go 2) (ω 2) ++ (wOffer k (go 3) (ω 3) ++ (wOffer k (go 4) (ω 4) ++ (wOffer k (go 5) (ω 5) ++ (wPlanner k gL κ (gU 0) ++ (wUses k gU υ ++ (wPlan k gP π (gR 0) ++ (wRem k gR ρ))))))))))))) H := hP
  replace hD : va_D A (wTill k gX θ (gT 0) (gB 0) x_keptUnits (gL 0) (gP 0) x_receipts ++ (wBasket k gB β ++ (wTariff k gT τ (fun i => some (go i 0)) ++ (wOffer k (go 0) (ω 0) ++ (wOffer k (go 1) (ω 1) ++ (wOffer k (go 2) (ω 2) ++ (wOffer k (go 3) (ω 3) ++ (wOffer k (go 4) (ω 4) ++ (wOffer k (go 5) (ω 5) ++ (wPlanner k gL κ (gU 0) ++ (wUses k gU υ ++ (wPlan k gP π (gR 0) ++ (wRem k gR ρ))))))))))))) := hD
  try dsimp only at h
  refine lv_iload_n hx hb d_Till_unit_11 rfl (lv_at hl 2 rfl) ?_
  refine lv_iconst (v := 0) hx hb d_Till_unit_12 (by decide) ?_
  refine lv_iconst (v := 3) hx hb d_Till_unit_13 (by decide) ?_
  refine none_i C hP hD hS (runS (As := [.int x2, .int 0, .int 3]) (rest := []) C nilP nilD (m_Till_within N   x2 0 3  _ h H.size) kw_276 kw_277 kw_1 kw_278 (hd_Till_within).2 ⟨Nat.le_of_ble_eq_true rfl, Nat.le_of_ble_eq_true rfl⟩ ⟨Nat.le_of_ble_eq_true rfl, Nat.le_of_ble_eq_true rfl⟩ rfl hl.1 (Nat.le_of_ble_eq_true rfl) d_Till_unit_14) (fun r4 u3 H locs h hP hD hS => ?_)
  try dsimp only at h
  refine callXS (As := [.int r4]) (rest := []) C hX hS (Jn.none (S := Unit) hP hD hS hA) (m_Till_requireArgument hlt N   r4  _ _ h) kw_279 kw_280 kw_1 kw_281 (hd_Till_requireArgument).2 rfl ⟨Nat.le_of_ble_eq_true rfl, Nat.le_of_ble_eq_true rfl⟩ ⟨Nat.le_of_ble_eq_true rfl, Nat.le_of_ble_eq_true rfl⟩ hl.1 (Nat.le_of_ble_eq_true rfl) d_Till_unit_17 (fun v9 u5 H locs h hP hD hS => ?_) (fun q9 E9 u9 ce9 H locs h hP hD hS hce9 hcv9 hcl9 => ?_)
  rotate_left
  · exact outX (u := (θ, κ, υ, π, ρ)) (wf := (fun u : (St) × (St) × (St) × (St) × (Nat → Int64) => wTill k gX u.1 (gT 0) (gB 0) x_keptUnits (gL 0) (gP 0) x_receipts ++ (wBasket k gB β ++ (wTariff k gT τ (fun i => some (go i 0)) ++ (wOffer k (go 0) (ω 0) ++ (wOffer k (go 1) (ω 1) ++ (wOffer k (go 2) (ω 2) ++ (wOffer k (go 3) (ω 3) ++ (wOffer k (go 4) (ω 4) ++ (wOffer k (go 5) (ω 5) ++ (wPlanner k gL u.2.1 (gU 0) ++ (wUses k gU u.2.2.1 ++ (wPlan k gP u.2.2.2.1 (gR 0) ++ (wRem k gR u.2.2.2.2)))))))))))))) C hcx hP hD hS hce9 hcv9 hcl9 (Nat.le_of_ble_eq_true rfl) (Nat.le_of_ble_eq_true rfl) h
  obtain ⟨rfl, h⟩ := h
  refine W.eq (g2 := F0 m 20 ls []) rfl ?_
  replace hP : va_P D CL (wTill k gX θ (gT 0) (gB 0) x_keptUnits (gL 0) (gP 0) x_receipts ++ (wBasket k gB β ++ (wTariff k gT τ (fun i => some (go i 0)) ++ (wOffer k (go 0) (ω 0) ++ (wOffer k (go 1) (ω 1) ++ (wOffer k (go 2) (ω 2) ++ (wOffer k (go 3) (ω 3) ++ (wOffer k (go 4) (ω 4) ++ (wOffer k (go 5) (ω 5) ++ (wPlanner k gL κ (gU 0) ++ (wUses k gU υ ++ (wPlan k gP π (gR 0) ++ (wRem k gR ρ))))))))))))) H := hP
  replace hD : va_D A (wTill k gX θ (gT 0) (gB 0) x_keptUnits (gL 0) (gP 0) x_receipts ++ (wBasket k gB β ++ (wTariff k gT τ (fun i => some (go i 0)) ++ (wOffer k (go 0) (ω 0) ++ (wOffer k (go 1) (ω 1) ++ (wOffer k (go 2) (ω 2) ++ (wOffer k (go 3) (ω 3) ++ (wOffer k (go 4) (ω 4) ++ (wOffer k (go 5) (ω 5) ++ (wPlanner k gL κ (gU 0) ++ (wUses k gU υ ++ (wPlan k gP π (gR 0) ++ (wRem k gR ρ))))))))))))) := hD
  try dsimp only at h
  refine lv_iload_n hx hb d_Till_unit_20 rfl (lv_at hl 2 rfl) ?_
  refine lv_if_ne (tgt := 34) hx hb d_Till_unit_21 (by decide) (fun c7 => ?_) (fun c7 => ?_)
  · replace h := h.1 c7
    refine lv_aload_n hx hb d_Till_unit_34 rfl (lv_at hl 0 rfl) ?_
    refine same_v C hP hD hS (runV (As := []) (rest := []) C hP hD (m_Till_findPlan N gX gB gT go gL gU gP gR x_keptUnits x_receipts θ β τ ω κ υ π ρ   _ h H.size) kw_498 kw_500 kp_2 kw_1 kw_501 hd_Till_findPlan ⟨Nat.le_of_ble_eq_true rfl, Nat.le_of_ble_eq_true rfl⟩ ⟨Nat.le_of_ble_eq_true rfl, Nat.le_of_ble_eq_true rfl⟩ 0 rfl rfl rfl rfl hl.1 (Nat.le_of_ble_eq_true rfl) d_Till_unit_35) (fun u8 H locs h hP hD hS => ?_)
    replace hP : va_P D CL (wTill k gX u8.1 (gT 0) (gB 0) x_keptUnits (gL 0) (gP 0) x_receipts ++ (wBasket k gB β ++ (wTariff k gT τ (fun i => some (go i 0)) ++ (wOffer k (go 0) (ω 0) ++ (wOffer k (go 1) (ω 1) ++ (wOffer k (go 2) (ω 2) ++ (wOffer k (go 3) (ω 3) ++ (wOffer k (go 4) (ω 4) ++ (wOffer k (go 5) (ω 5) ++ (wPlanner k gL u8.2.1 (gU 0) ++ (wUses k gU u8.2.2.1 ++ (wPlan k gP u8.2.2.2.1 (gR 0) ++ (wRem k gR u8.2.2.2.2))))))))))))) H := hP
    replace hD : va_D A (wTill k gX u8.1 (gT 0) (gB 0) x_keptUnits (gL 0) (gP 0) x_receipts ++ (wBasket k gB β ++ (wTariff k gT τ (fun i => some (go i 0)) ++ (wOffer k (go 0) (ω 0) ++ (wOffer k (go 1) (ω 1) ++ (wOffer k (go 2) (ω 2) ++ (wOffer k (go 3) (ω 3) ++ (wOffer k (go 4) (ω 4) ++ (wOffer k (go 5) (ω 5) ++ (wPlanner k gL u8.2.1 (gU 0) ++ (wUses k gU u8.2.2.1 ++ (wPlan k gP u8.2.2.2.1 (gR 0) ++ (wRem k gR u8.2.2.2.2))))))))))))) := hD
    try dsimp only at h
    refine lv_iload_n hx hb d_Till_unit_38 rfl (lv_at hl 2 rfl) ?_
    by_cases c10 : x2 = 1
    · replace h := h.1 c10
      refine lv_lookup (off := 25) (tgt := 64) hx hb d_Till_unit_39 (by decide) (by rw [c10]; rfl) (by decide) ?_
      refine lv_aload_n hx hb d_Till_unit_64 rfl (lv_at hl 0 rfl) ?_
      refine va_get (D := D) (ci := 7) (v := .ref (gP 0)) (C := R_Till) (T := F_Till) (N := 9) hx hb hts in_Till hown hK hP 0 rfl rfl 5 (by decide) (hts _ kw_241) (fun _ h9 => h9) rfl d_Till_unit_65 ?_
      refine va_get (D := D) (ci := 2) (v := .ref (gP 1)) (C := R_Plan) (T := F_Plan) (N := 6) hx hb hts in_Plan hown hK hP 33 rfl rfl 0 (by decide) (hts _ kw_185) (fun _ h9 => h9) rfl d_Till_unit_68 ?_
      refine lv_iload_n hx hb d_Till_unit_71 rfl (lv_at hl 1 rfl) ?_
      obtain ⟨hi11, h⟩ := h
      refine va_iald hx hb hK hP 34 0 rfl rfl hi11 d_Till_unit_72 ?_
      exact retX_i (u := (u8.1, u8.2.1, u8.2.2.1, u8.2.2.2.1, u8.2.2.2.2)) (wf := (fun u : (St) × (St) × (St) × (St) × (Nat → Int64) => wTill k gX u.1 (gT 0) (gB 0) x_keptUnits (gL 0) (gP 0) x_receipts ++ (wBasket k gB β ++ (wTariff k gT τ (fun i => some (go i 0)) ++ (wOffer k (go 0) (ω 0) ++ (wOffer k (go 1) (ω 1) ++ (wOffer k (go 2) (ω 2) ++ (wOffer k (go 3) (ω 3) ++ (wOffer k (go 4) (ω 4) ++ (wOffer k (go 5) (ω 5) ++ (wPlanner k gL u.2.1 (gU 0) ++ (wUses k gU u.2.2.1 ++ (wPlan k gP u.2.2.2.1 (gR 0) ++ (wRem k gR u.2.2.2.2)))))))))))))) C hP hD hS (Nat.le_of_ble_eq_true rfl) (Nat.le_of_ble_eq_true rfl) ⟨_, rfl, h⟩ d_Till_unit_73
    · replace h := h.2 c10
      by_cases c12 : x2 = 2
      · replace h := h.1 c12
        refine lv_lookup (off := 35) (tgt := 74) hx hb d_Till_unit_39 (by decide) (by rw [c12]; rfl) (by decide) ?_
        refine lv_aload_n hx hb d_Till_unit_74 rfl (lv_at hl 0 rfl) ?_
        refine va_get (D := D) (ci := 7) (v := .ref (gP 0)) (C := R_Till) (T := F_Till) (N := 9) hx hb hts in_Till hown hK hP 0 rfl rfl 5 (by decide) (hts _ kw_241) (fun _ h9 => h9) rfl d_Till_unit_75 ?_
        refine va_get (D := D) (ci := 2) (v := .ref (gP 2)) (C := R_Plan) (T := F_Plan) (N := 6) hx hb hts in_Plan hown hK hP 33 rfl rfl 1 (by decide) (hts _ kw_187) (fun _ h9 => h9) rfl d_Till_unit_78 ?_
        refine lv_iload_n hx hb d_Till_unit_81 rfl (lv_at hl 1 rfl) ?_
        obtain ⟨hi13, h⟩ := h
        refine va_iald hx hb hK hP 35 0 rfl rfl hi13 d_Till_unit_82 ?_
        exact retX_i (u := (u8.1, u8.2.1, u8.2.2.1, u8.2.2.2.1, u8.2.2.2.2)) (wf := (fun u : (St) × (St) × (St) × (St) × (Nat → Int64) => wTill k gX u.1 (gT 0) (gB 0) x_keptUnits (gL 0) (gP 0) x_receipts ++ (wBasket k gB β ++ (wTariff k gT τ (fun i => some (go i 0)) ++ (wOffer k (go 0) (ω 0) ++ (wOffer k (go 1) (ω 1) ++ (wOffer k (go 2) (ω 2) ++ (wOffer k (go 3) (ω 3) ++ (wOffer k (go 4) (ω 4) ++ (wOffer k (go 5) (ω 5) ++ (wPlanner k gL u.2.1 (gU 0) ++ (wUses k gU u.2.2.1 ++ (wPlan k gP u.2.2.2.1 (gR 0) ++ (wRem k gR u.2.2.2.2)))))))))))))) C hP hD hS (Nat.le_of_ble_eq_true rfl) (Nat.le_of_ble_eq_true rfl) ⟨_, rfl, h⟩ d_Till_unit_83
      · replace h := h.2 c12
        refine lv_lookup (off := 45) (tgt := 84) hx hb d_Till_unit_39 (by decide) ((lv_osw c10 (by decide : (1 : Int32).toInt = 1)).trans ((lv_osw c12 (by decide : (2 : Int32).toInt = 2)).trans rfl)) (by decide) ?_
        refine lv_aload_n hx hb d_Till_unit_84 rfl (lv_at hl 0 rfl) ?_
        refine va_get (D := D) (ci := 7) (v := .ref (gP 0)) (C := R_Till) (T := F_Till) (N := 9) hx hb hts in_Till hown hK hP 0 rfl rfl 5 (by decide) (hts _ kw_241) (fun _ h9 => h9) rfl d_Till_unit_85 ?_
        refine va_get (D := D) (ci := 2) (v := .ref (gP 3)) (C := R_Plan) (T := F_Plan) (N := 6) hx hb hts in_Plan hown hK hP 33 rfl rfl 2 (by decide) (hts _ kw_190) (fun _ h9 => h9) rfl d_Till_unit_88 ?_
        refine lv_iload_n hx hb d_Till_unit_91 rfl (lv_at hl 1 rfl) ?_
        obtain ⟨hi14, h⟩ := h
        refine va_iald hx hb hK hP 36 0 rfl rfl hi14 d_Till_unit_92 ?_
        exact retX_i (u := (u8.1, u8.2.1, u8.2.2.1, u8.2.2.2.1, u8.2.2.2.2)) (wf := (fun u : (St) × (St) × (St) × (St) × (Nat → Int64) => wTill k gX u.1 (gT 0) (gB 0) x_keptUnits (gL 0) (gP 0) x_receipts ++ (wBasket k gB β ++ (wTariff k gT τ (fun i => some (go i 0)) ++ (wOffer k (go 0) (ω 0) ++ (wOffer k (go 1) (ω 1) ++ (wOffer k (go 2) (ω 2) ++ (wOffer k (go 3) (ω 3) ++ (wOffer k (go 4) (ω 4) ++ (wOffer k (go 5) (ω 5) ++ (wPlanner k gL u.2.1 (gU 0) ++ (wUses k gU u.2.2.1 ++ (wPlan k gP u.2.2.2.1 (gR 0) ++ (wRem k gR u.2.2.2.2)))))))))))))) C hP hD hS (Nat.le_of_ble_eq_true rfl) (Nat.le_of_ble_eq_true rfl) ⟨_, rfl, h⟩ d_Till_unit_93
  · replace h := h.2 c7
    refine lv_aload_n hx hb d_Till_unit_24 rfl (lv_at hl 0 rfl) ?_
    refine va_get (D := D) (ci := 7) (v := .ref (gB 0)) (C := R_Till) (T := F_Till) (N := 9) hx hb hts in_Till hown hK hP 0 rfl rfl 2 (by decide) (hts _ kw_238) (fun _ h9 => h9) rfl d_Till_unit_25 ?_
    refine va_get (D := D) (ci := 0) (v := .ref (gB 1)) (C := R_Basket) (T := F_Basket) (N := 2) hx hb hts in_Basket hown hK hP 2 rfl rfl 0 (by decide) (hts _ kw_104) (fun _ h9 => h9) rfl d_Till_unit_28 ?_
    refine lv_iload_n hx hb d_Till_unit_31 rfl (lv_at hl 1 rfl) ?_
    obtain ⟨hi15, h⟩ := h
    refine va_iald hx hb hK hP 3 0 rfl rfl hi15 d_Till_unit_32 ?_
    exact retX_i (u := (θ, κ, υ, π, ρ)) (wf := (fun u : (St) × (St) × (St) × (St) × (Nat → Int64) => wTill k gX u.1 (gT 0) (gB 0) x_keptUnits (gL 0) (gP 0) x_receipts ++ (wBasket k gB β ++ (wTariff k gT τ (fun i => some (go i 0)) ++ (wOffer k (go 0) (ω 0) ++ (wOffer k (go 1) (ω 1) ++ (wOffer k (go 2) (ω 2) ++ (wOffer k (go 3) (ω 3) ++ (wOffer k (go 4) (ω 4) ++ (wOffer k (go 5) (ω 5) ++ (wPlanner k gL u.2.1 (gU 0) ++ (wUses k gU u.2.2.1 ++ (wPlan k gP u.2.2.2.1 (gR 0) ++ (wRem k gR u.2.2.2.2)))))))))))))) C hP hD hS (Nat.le_of_ble_eq_true rfl) (Nat.le_of_ble_eq_true rfl) ⟨_, rfl, h⟩ d_Till_unit_33
set_option maxHeartbeats 4000000 in
set_option maxRecDepth 100000 in
theorem t_Till_tryOffer_95 {p : Program} {l : Launch} {e : Env} {s : State} {m : MethodId} {args : Array Value} {below : List Frame} {meth : Method} {c : Code} {A : Nat → Prop} {D : va_G} {k : Nat → ClassId} {gX : Nat → Nat} {gB : Nat → Nat} {gT : Nat → Nat} {go : Nat → Nat → Nat} {gL : Nat → Nat} {gU : Nat → Nat} {x_keptUnits : Nat} {x_plan : Nat} {x_receipts : Nat} (hlt : l.stackTraces = false) (hX : Xf D A s s.heap) (hcx : c.exceptionTable.isEmpty = true) {x1 : Int32} (C : Cx p s m args meth c D k "PromotionTill" b_Till_tryOffer 5 (some .int) A) (N : Nat) (θ : St) (β : St) (τ : St) (post : Int32 → ((Nat → St) × (St) × (St)) → Prop) (xp : String → ((Nat → St) × (St) × (St)) → Prop) :
    ∀ (x3 : Int32) (x4 : Int32) (y0 : Int32) (ω : (Nat → St)) (κ : (St)) (υ : (St)) (H : Heap) (locs : List Loc) (ls : Array Slot), va_P D CL (wTill k gX θ (gT 0) (gB 0) x_keptUnits (gL 0) x_plan x_receipts ++ (wBasket k gB β ++ (wTariff k gT τ (fun i => some (go i 0)) ++ (wOffer k (go 0) (ω 0) ++ (wOffer k (go 1) (ω 1) ++ (wOffer k (go 2) (ω 2) ++ (wOffer k (go 3) (ω 3) ++ (wOffer k (go 4) (ω 4) ++ (wOffer k (go 5) (ω 5) ++ (wPlanner k gL κ (gU 0) ++ (wUses k gU υ))))))))))) H → va_D A (wTill k gX θ (gT 0) (gB 0) x_keptUnits (gL 0) x_plan x_receipts ++ (wBasket k gB β ++ (wTariff k gT τ (fun i => some (go i 0)) ++ (wOffer k (go 0) (ω 0) ++ (wOffer k (go 1) (ω 1) ++ (wOffer k (go 2) (ω 2) ++ (wOffer k (go 3) (ω 3) ++ (wOffer k (go 4) (ω 4) ++ (wOffer k (go 5) (ω 5) ++ (wPlanner k gL κ (gU 0) ++ (wUses k gU υ))))))))))) → va_S A s.heap H locs → lv_has ls 5 [(3, .int x3), (4, .int x4)] → wp_Till_tryOffer_95 N θ β τ x1 post xp x3 x4 y0 ω κ υ → W p l e rm_Till_tryOffer s m args below meth c H locs 1 6 (XQ below D A (fun u : (Nat → St) × (St) × (St) => wTill k gX θ (gT 0) (gB 0) x_keptUnits (gL 0) x_plan x_receipts ++ (wBasket k gB β ++ (wTariff k gT τ (fun i => some (go i 0)) ++ (wOffer k (go 0) (u.1 0) ++ (wOffer k (go 1) (u.1 1) ++ (wOffer k (go 2) (u.1 2) ++ (wOffer k (go 3) (u.1 3) ++ (wOffer k (go 4) (u.1 4) ++ (wOffer k (go 5) (u.1 5) ++ (wPlanner k gL u.2.1 (gU 0) ++ (wUses k gU u.2.2))))))))))) (fun v (u : (Nat → St) × (St) × (St)) => ∃ r : Int32, v = some (.int r) ∧ post r u) xp s rm_Till_tryOffer.cells rm_Till_tryOffer.slots) (F0 m 95 ls [.int y0, .ref ((go (Int32.toNatClampNeg x1)) 0)]) := by
  obtain ⟨hx, hb, hr, hlk, hml, hown, hts, hK, hA⟩ := id C
  obtain ⟨t9, hZ9, hT9, hE9⟩ := id hX.2
  intro x3 x4 y0 ω κ υ H locs ls hP hD hS hl h
  unfold wp_Till_tryOffer_95 at h
  obtain ⟨hi9, h⟩ := h
  obtain ⟨i9, hj9, e9⟩ := vp_in_of hi9 (by decide)
  rcases (show i9 = 0 ∨ i9 = 1 ∨ i9 = 2 ∨ i9 = 3 ∨ i9 = 4 ∨ i9 = 5 by omega) with rfl | rfl | rfl | rfl | rfl | rfl
  · subst e9
    try simp only [show (nI 0).toNatClampNeg = 0 from rfl] at h
    replace hl : lv_has ls 5 [(3, .int x3), (4, .int x4)] := hl
    refine W.eq (g2 := F0 m 95 ls [.int y0, .ref ((go 0) 0)]) rfl ?_
    obtain ⟨hz14, h⟩ := h
    refine va_put (D := D) (ci := 1) (v := .int y0) (ty := .boolean) (C := R_Offer) (T := F_Offer) (N := 6) hx hb hts in_Offer t_Offer tt_Offer n_Offer hown hK hP hD hS 7 rfl rfl 4 (by decide) (hts _ kw_64) (fun _ h9 => h9) rfl (by decide +kernel) hz14.1 hz14.2 (Nat.le_of_ble_eq_true rfl) d_Till_tryOffer_95 (fun H locs hP hD hS => ?_)
    obtain ⟨ω15, eω15⟩ : ∃ z, z = va_up ω 0 (s2 (ω 0) 4 0 y0) := ⟨_, rfl⟩
    replace hP : va_P D CL (wTill k gX θ (gT 0) (gB 0) x_keptUnits (gL 0) x_plan x_receipts ++ (wBasket k gB β ++ (wTariff k gT τ (fun i => some (go i 0)) ++ (wOffer k (go 0) (ω15 0) ++ (wOffer k (go 1) (ω15 1) ++ (wOffer k (go 2) (ω15 2) ++ (wOffer k (go 3) (ω15 3) ++ (wOffer k (go 4) (ω15 4) ++ (wOffer k (go 5) (ω15 5) ++ (wPlanner k gL κ (gU 0) ++ (wUses k gU υ))))))))))) H := by rw [eω15]; exact hP
    replace hD : va_D A (wTill k gX θ (gT 0) (gB 0) x_keptUnits (gL 0) x_plan x_receipts ++ (wBasket k gB β ++ (wTariff k gT τ (fun i => some (go i 0)) ++ (wOffer k (go 0) (ω15 0) ++ (wOffer k (go 1) (ω15 1) ++ (wOffer k (go 2) (ω15 2) ++ (wOffer k (go 3) (ω15 3) ++ (wOffer k (go 4) (ω15 4) ++ (wOffer k (go 5) (ω15 5) ++ (wPlanner k gL κ (gU 0) ++ (wUses k gU υ))))))))))) := by rw [eω15]; exact hD
    replace h := h ω15 eω15
    refine lv_iload_n hx hb d_Till_tryOffer_98 rfl (lv_at hl 0 rfl) ?_
    refine lv_if_ne (tgt := 112) hx hb d_Till_tryOffer_99 (by decide) (fun c16 => ?_) (fun c16 => ?_)
    · replace h := h.1 c16
      refine lv_iload hx hb d_Till_tryOffer_112 (lv_at hl 1 rfl) ?_
      exact retX_i (u := (ω15, κ, υ)) (wf := (fun u : (Nat → St) × (St) × (St) => wTill k gX θ (gT 0) (gB 0) x_keptUnits (gL 0) x_plan x_receipts ++ (wBasket k gB β ++ (wTariff k gT τ (fun i => some (go i 0)) ++ (wOffer k (go 0) (u.1 0) ++ (wOffer k (go 1) (u.1 1) ++ (wOffer k (go 2) (u.1 2) ++ (wOffer k (go 3) (u.1 3) ++ (wOffer k (go 4) (u.1 4) ++ (wOffer k (go 5) (u.1 5) ++ (wPlanner k gL u.2.1 (gU 0) ++ (wUses k gU u.2.2)))))))))))) C hP hD hS (Nat.le_of_ble_eq_true rfl) (Nat.le_of_ble_eq_true rfl) ⟨_, rfl, h⟩ d_Till_tryOffer_114
    · replace h := h.2 c16
      exact thr (u := (ω15, κ, υ)) (wf := (fun u : (Nat → St) × (St) × (St) => wTill k gX θ (gT 0) (gB 0) x_keptUnits (gL 0) x_plan x_receipts ++ (wBasket k gB β ++ (wTariff k gT τ (fun i => some (go i 0)) ++ (wOffer k (go 0) (u.1 0) ++ (wOffer k (go 1) (u.1 1) ++ (wOffer k (go 2) (u.1 2) ++ (wOffer k (go 3) (u.1 3) ++ (wOffer k (go 4) (u.1 4) ++ (wOffer k (go 5) (u.1 5) ++ (wPlanner k gL u.2.1 (gU 0) ++ (wUses k gU u.2.2)))))))))))) (text := "the room would not do") C hX hlt hcx xOk_uo (by decide +kernel) kw_411 kw_18 (by decide +kernel) hP hD hS hl.1 d_Till_tryOffer_102 d_Till_tryOffer_105 d_Till_tryOffer_106 d_Till_tryOffer_108 d_Till_tryOffer_111 (Nat.le_of_ble_eq_true rfl) (Nat.le_of_ble_eq_true rfl) (Nat.le_of_ble_eq_true rfl) (Nat.le_of_ble_eq_true rfl) (Nat.le_refl _) (Nat.le_refl _) h
  · subst e9
    try simp only [show (nI 1).toNatClampNeg = 1 from rfl] at h
    replace hl : lv_has ls 5 [(3, .int x3), (4, .int x4)] := hl
    refine W.eq (g2 := F0 m 95 ls [.int y0, .ref ((go 1) 0)]) rfl ?_
    obtain ⟨hz14, h⟩ := h
    refine va_put (D := D) (ci := 1) (v := .int y0) (ty := .boolean) (C := R_Offer) (T := F_Offer) (N := 6) hx hb hts in_Offer t_Offer tt_Offer n_Offer hown hK hP hD hS 9 rfl rfl 4 (by decide) (hts _ kw_64) (fun _ h9 => h9) rfl (by decide +kernel) hz14.1 hz14.2 (Nat.le_of_ble_eq_true rfl) d_Till_tryOffer_95 (fun H locs hP hD hS => ?_)
    obtain ⟨ω15, eω15⟩ : ∃ z, z = va_up ω 1 (s2 (ω 1) 4 0 y0) := ⟨_, rfl⟩
    replace hP : va_P D CL (wTill k gX θ (gT 0) (gB 0) x_keptUnits (gL 0) x_plan x_receipts ++ (wBasket k gB β ++ (wTariff k gT τ (fun i => some (go i 0)) ++ (wOffer k (go 0) (ω15 0) ++ (wOffer k (go 1) (ω15 1) ++ (wOffer k (go 2) (ω15 2) ++ (wOffer k (go 3) (ω15 3) ++ (wOffer k (go 4) (ω15 4) ++ (wOffer k (go 5) (ω15 5) ++ (wPlanner k gL κ (gU 0) ++ (wUses k gU υ))))))))))) H := by rw [eω15]; exact hP
    replace hD : va_D A (wTill k gX θ (gT 0) (gB 0) x_keptUnits (gL 0) x_plan x_receipts ++ (wBasket k gB β ++ (wTariff k gT τ (fun i => some (go i 0)) ++ (wOffer k (go 0) (ω15 0) ++ (wOffer k (go 1) (ω15 1) ++ (wOffer k (go 2) (ω15 2) ++ (wOffer k (go 3) (ω15 3) ++ (wOffer k (go 4) (ω15 4) ++ (wOffer k (go 5) (ω15 5) ++ (wPlanner k gL κ (gU 0) ++ (wUses k gU υ))))))))))) := by rw [eω15]; exact hD
    replace h := h ω15 eω15
    refine lv_iload_n hx hb d_Till_tryOffer_98 rfl (lv_at hl 0 rfl) ?_
    refine lv_if_ne (tgt := 112) hx hb d_Till_tryOffer_99 (by decide) (fun c16 => ?_) (fun c16 => ?_)
    · replace h := h.1 c16
      refine lv_iload hx hb d_Till_tryOffer_112 (lv_at hl 1 rfl) ?_
      exact retX_i (u := (ω15, κ, υ)) (wf := (fun u : (Nat → St) × (St) × (St) => wTill k gX θ (gT 0) (gB 0) x_keptUnits (gL 0) x_plan x_receipts ++ (wBasket k gB β ++ (wTariff k gT τ (fun i => some (go i 0)) ++ (wOffer k (go 0) (u.1 0) ++ (wOffer k (go 1) (u.1 1) ++ (wOffer k (go 2) (u.1 2) ++ (wOffer k (go 3) (u.1 3) ++ (wOffer k (go 4) (u.1 4) ++ (wOffer k (go 5) (u.1 5) ++ (wPlanner k gL u.2.1 (gU 0) ++ (wUses k gU u.2.2)))))))))))) C hP hD hS (Nat.le_of_ble_eq_true rfl) (Nat.le_of_ble_eq_true rfl) ⟨_, rfl, h⟩ d_Till_tryOffer_114
    · replace h := h.2 c16
      exact thr (u := (ω15, κ, υ)) (wf := (fun u : (Nat → St) × (St) × (St) => wTill k gX θ (gT 0) (gB 0) x_keptUnits (gL 0) x_plan x_receipts ++ (wBasket k gB β ++ (wTariff k gT τ (fun i => some (go i 0)) ++ (wOffer k (go 0) (u.1 0) ++ (wOffer k (go 1) (u.1 1) ++ (wOffer k (go 2) (u.1 2) ++ (wOffer k (go 3) (u.1 3) ++ (wOffer k (go 4) (u.1 4) ++ (wOffer k (go 5) (u.1 5) ++ (wPlanner k gL u.2.1 (gU 0) ++ (wUses k gU u.2.2)))))))))))) (text := "the room would not do") C hX hlt hcx xOk_uo (by decide +kernel) kw_411 kw_18 (by decide +kernel) hP hD hS hl.1 d_Till_tryOffer_102 d_Till_tryOffer_105 d_Till_tryOffer_106 d_Till_tryOffer_108 d_Till_tryOffer_111 (Nat.le_of_ble_eq_true rfl) (Nat.le_of_ble_eq_true rfl) (Nat.le_of_ble_eq_true rfl) (Nat.le_of_ble_eq_true rfl) (Nat.le_refl _) (Nat.le_refl _) h
  · subst e9
    try simp only [show (nI 2).toNatClampNeg = 2 from rfl] at h
    replace hl : lv_has ls 5 [(3, .int x3), (4, .int x4)] := hl
    refine W.eq (g2 := F0 m 95 ls [.int y0, .ref ((go 2) 0)]) rfl ?_
    obtain ⟨hz14, h⟩ := h
    refine va_put (D := D) (ci := 1) (v := .int y0) (ty := .boolean) (C := R_Offer) (T := F_Offer) (N := 6) hx hb hts in_Offer t_Offer tt_Offer n_Offer hown hK hP hD hS 11 rfl rfl 4 (by decide) (hts _ kw_64) (fun _ h9 => h9) rfl (by decide +kernel) hz14.1 hz14.2 (Nat.le_of_ble_eq_true rfl) d_Till_tryOffer_95 (fun H locs hP hD hS => ?_)
    obtain ⟨ω15, eω15⟩ : ∃ z, z = va_up ω 2 (s2 (ω 2) 4 0 y0) := ⟨_, rfl⟩
    replace hP : va_P D CL (wTill k gX θ (gT 0) (gB 0) x_keptUnits (gL 0) x_plan x_receipts ++ (wBasket k gB β ++ (wTariff k gT τ (fun i => some (go i 0)) ++ (wOffer k (go 0) (ω15 0) ++ (wOffer k (go 1) (ω15 1) ++ (wOffer k (go 2) (ω15 2) ++ (wOffer k (go 3) (ω15 3) ++ (wOffer k (go 4) (ω15 4) ++ (wOffer k (go 5) (ω15 5) ++ (wPlanner k gL κ (gU 0) ++ (wUses k gU υ))))))))))) H := by rw [eω15]; exact hP
    replace hD : va_D A (wTill k gX θ (gT 0) (gB 0) x_keptUnits (gL 0) x_plan x_receipts ++ (wBasket k gB β ++ (wTariff k gT τ (fun i => some (go i 0)) ++ (wOffer k (go 0) (ω15 0) ++ (wOffer k (go 1) (ω15 1) ++ (wOffer k (go 2) (ω15 2) ++ (wOffer k (go 3) (ω15 3) ++ (wOffer k (go 4) (ω15 4) ++ (wOffer k (go 5) (ω15 5) ++ (wPlanner k gL κ (gU 0) ++ (wUses k gU υ))))))))))) := by rw [eω15]; exact hD
    replace h := h ω15 eω15
    refine lv_iload_n hx hb d_Till_tryOffer_98 rfl (lv_at hl 0 rfl) ?_
    refine lv_if_ne (tgt := 112) hx hb d_Till_tryOffer_99 (by decide) (fun c16 => ?_) (fun c16 => ?_)
    · replace h := h.1 c16
      refine lv_iload hx hb d_Till_tryOffer_112 (lv_at hl 1 rfl) ?_
      exact retX_i (u := (ω15, κ, υ)) (wf := (fun u : (Nat → St) × (St) × (St) => wTill k gX θ (gT 0) (gB 0) x_keptUnits (gL 0) x_plan x_receipts ++ (wBasket k gB β ++ (wTariff k gT τ (fun i => some (go i 0)) ++ (wOffer k (go 0) (u.1 0) ++ (wOffer k (go 1) (u.1 1) ++ (wOffer k (go 2) (u.1 2) ++ (wOffer k (go 3) (u.1 3) ++ (wOffer k (go 4) (u.1 4) ++ (wOffer k (go 5) (u.1 5) ++ (wPlanner k gL u.2.1 (gU 0) ++ (wUses k gU u.2.2)))))))))))) C hP hD hS (Nat.le_of_ble_eq_true rfl) (Nat.le_of_ble_eq_true rfl) ⟨_, rfl, h⟩ d_Till_tryOffer_114
    · replace h := h.2 c16
      exact thr (u := (ω15, κ, υ)) (wf := (fun u : (Nat → St) × (St) × (St) => wTill k gX θ (gT 0) (gB 0) x_keptUnits (gL 0) x_plan x_receipts ++ (wBasket k gB β ++ (wTariff k gT τ (fun i => some (go i 0)) ++ (wOffer k (go 0) (u.1 0) ++ (wOffer k (go 1) (u.1 1) ++ (wOffer k (go 2) (u.1 2) ++ (wOffer k (go 3) (u.1 3) ++ (wOffer k (go 4) (u.1 4) ++ (wOffer k (go 5) (u.1 5) ++ (wPlanner k gL u.2.1 (gU 0) ++ (wUses k gU u.2.2)))))))))))) (text := "the room would not do") C hX hlt hcx xOk_uo (by decide +kernel) kw_411 kw_18 (by decide +kernel) hP hD hS hl.1 d_Till_tryOffer_102 d_Till_tryOffer_105 d_Till_tryOffer_106 d_Till_tryOffer_108 d_Till_tryOffer_111 (Nat.le_of_ble_eq_true rfl) (Nat.le_of_ble_eq_true rfl) (Nat.le_of_ble_eq_true rfl) (Nat.le_of_ble_eq_true rfl) (Nat.le_refl _) (Nat.le_refl _) h
  · subst e9
    try simp only [show (nI 3).toNatClampNeg = 3 from rfl] at h
    replace hl : lv_has ls 5 [(3, .int x3), (4, .int x4)] := hl
    refine W.eq (g2 := F0 m 95 ls [.int y0, .ref ((go 3) 0)]) rfl ?_
    obtain ⟨hz14, h⟩ := h
    refine va_put (D := D) (ci := 1) (v := .int y0) (ty := .boolean) (C := R_Offer) (T := F_Offer) (N := 6) hx hb hts in_Offer t_Offer tt_Offer n_Offer hown hK hP hD hS 13 rfl rfl 4 (by decide) (hts _ kw_64) (fun _ h9 => h9) rfl (by decide +kernel) hz14.1 hz14.2 (Nat.le_of_ble_eq_true rfl) d_Till_tryOffer_95 (fun H locs hP hD hS => ?_)
    obtain ⟨ω15, eω15⟩ : ∃ z, z = va_up ω 3 (s2 (ω 3) 4 0 y0) := ⟨_, rfl⟩
    replace hP : va_P D CL (wTill k gX θ (gT 0) (gB 0) x_keptUnits (gL 0) x_plan x_receipts ++ (wBasket k gB β ++ (wTariff k gT τ (fun i => some (go i 0)) ++ (wOffer k (go 0) (ω15 0) ++ (wOffer k (go 1) (ω15 1) ++ (wOffer k (go 2) (ω15 2) ++ (wOffer k (go 3) (ω15 3) ++ (wOffer k (go 4) (ω15 4) ++ (wOffer k (go 5) (ω15 5) ++ (wPlanner k gL κ (gU 0) ++ (wUses k gU υ))))))))))) H := by rw [eω15]; exact hP
    replace hD : va_D A (wTill k gX θ (gT 0) (gB 0) x_keptUnits (gL 0) x_plan x_receipts ++ (wBasket k gB β ++ (wTariff k gT τ (fun i => some (go i 0)) ++ (wOffer k (go 0) (ω15 0) ++ (wOffer k (go 1) (ω15 1) ++ (wOffer k (go 2) (ω15 2) ++ (wOffer k (go 3) (ω15 3) ++ (wOffer k (go 4) (ω15 4) ++ (wOffer k (go 5) (ω15 5) ++ (wPlanner k gL κ (gU 0) ++ (wUses k gU υ))))))))))) := by rw [eω15]; exact hD
    replace h := h ω15 eω15
    refine lv_iload_n hx hb d_Till_tryOffer_98 rfl (lv_at hl 0 rfl) ?_
    refine lv_if_ne (tgt := 112) hx hb d_Till_tryOffer_99 (by decide) (fun c16 => ?_) (fun c16 => ?_)
    · replace h := h.1 c16
      refine lv_iload hx hb d_Till_tryOffer_112 (lv_at hl 1 rfl) ?_
      exact retX_i (u := (ω15, κ, υ)) (wf := (fun u : (Nat → St) × (St) × (St) => wTill k gX θ (gT 0) (gB 0) x_keptUnits (gL 0) x_plan x_receipts ++ (wBasket k gB β ++ (wTariff k gT τ (fun i => some (go i 0)) ++ (wOffer k (go 0) (u.1 0) ++ (wOffer k (go 1) (u.1 1) ++ (wOffer k (go 2) (u.1 2) ++ (wOffer k (go 3) (u.1 3) ++ (wOffer k (go 4) (u.1 4) ++ (wOffer k (go 5) (u.1 5) ++ (wPlanner k gL u.2.1 (gU 0) ++ (wUses k gU u.2.2)))))))))))) C hP hD hS (Nat.le_of_ble_eq_true rfl) (Nat.le_of_ble_eq_true rfl) ⟨_, rfl, h⟩ d_Till_tryOffer_114
    · replace h := h.2 c16
      exact thr (u := (ω15, κ, υ)) (wf := (fun u : (Nat → St) × (St) × (St) => wTill k gX θ (gT 0) (gB 0) x_keptUnits (gL 0) x_plan x_receipts ++ (wBasket k gB β ++ (wTariff k gT τ (fun i => some (go i 0)) ++ (wOffer k (go 0) (u.1 0) ++ (wOffer k (go 1) (u.1 1) ++ (wOffer k (go 2) (u.1 2) ++ (wOffer k (go 3) (u.1 3) ++ (wOffer k (go 4) (u.1 4) ++ (wOffer k (go 5) (u.1 5) ++ (wPlanner k gL u.2.1 (gU 0) ++ (wUses k gU u.2.2)))))))))))) (text := "the room would not do") C hX hlt hcx xOk_uo (by decide +kernel) kw_411 kw_18 (by decide +kernel) hP hD hS hl.1 d_Till_tryOffer_102 d_Till_tryOffer_105 d_Till_tryOffer_106 d_Till_tryOffer_108 d_Till_tryOffer_111 (Nat.le_of_ble_eq_true rfl) (Nat.le_of_ble_eq_true rfl) (Nat.le_of_ble_eq_true rfl) (Nat.le_of_ble_eq_true rfl) (Nat.le_refl _) (Nat.le_refl _) h
  · subst e9
    try simp only [show (nI 4).toNatClampNeg = 4 from rfl] at h
    replace hl : lv_has ls 5 [(3, .int x3), (4, .int x4)] := hl
    refine W.eq (g2 := F0 m 95 ls [.int y0, .ref ((go 4) 0)]) rfl ?_
    obtain ⟨hz14, h⟩ := h
    refine va_put (D := D) (ci := 1) (v := .int y0) (ty := .boolean) (C := R_Offer) (T := F_Offer) (N := 6) hx hb hts in_Offer t_Offer tt_Offer n_Offer hown hK hP hD hS 15 rfl rfl 4 (by decide) (hts _ kw_64) (fun _ h9 => h9) rfl (by decide +kernel) hz14.1 hz14.2 (Nat.le_of_ble_eq_true rfl) d_Till_tryOffer_95 (fun H locs hP hD hS => ?_)
    obtain ⟨ω15, eω15⟩ : ∃ z, z = va_up ω 4 (s2 (ω 4) 4 0 y0) := ⟨_, rfl⟩
    replace hP : va_P D CL (wTill k gX θ (gT 0) (gB 0) x_keptUnits (gL 0) x_plan x_receipts ++ (wBasket k gB β ++ (wTariff k gT τ (fun i => some (go i 0)) ++ (wOffer k (go 0) (ω15 0) ++ (wOffer k (go 1) (ω15 1) ++ (wOffer k (go 2) (ω15 2) ++ (wOffer k (go 3) (ω15 3) ++ (wOffer k (go 4) (ω15 4) ++ (wOffer k (go 5) (ω15 5) ++ (wPlanner k gL κ (gU 0) ++ (wUses k gU υ))))))))))) H := by rw [eω15]; exact hP
    replace hD : va_D A (wTill k gX θ (gT 0) (gB 0) x_keptUnits (gL 0) x_plan x_receipts ++ (wBasket k gB β ++ (wTariff k gT τ (fun i => some (go i 0)) ++ (wOffer k (go 0) (ω15 0) ++ (wOffer k (go 1) (ω15 1) ++ (wOffer k (go 2) (ω15 2) ++ (wOffer k (go 3) (ω15 3) ++ (wOffer k (go 4) (ω15 4) ++ (wOffer k (go 5) (ω15 5) ++ (wPlanner k gL κ (gU 0) ++ (wUses k gU υ))))))))))) := by rw [eω15]; exact hD
    replace h := h ω15 eω15
    refine lv_iload_n hx hb d_Till_tryOffer_98 rfl (lv_at hl 0 rfl) ?_
    refine lv_if_ne (tgt := 112) hx hb d_Till_tryOffer_99 (by decide) (fun c16 => ?_) (fun c16 => ?_)
    · replace h := h.1 c16
      refine lv_iload hx hb d_Till_tryOffer_112 (lv_at hl 1 rfl) ?_
      exact retX_i (u := (ω15, κ, υ)) (wf := (fun u : (Nat → St) × (St) × (St) => wTill k gX θ (gT 0) (gB 0) x_keptUnits (gL 0) x_plan x_receipts ++ (wBasket k gB β ++ (wTariff k gT τ (fun i => some (go i 0)) ++ (wOffer k (go 0) (u.1 0) ++ (wOffer k (go 1) (u.1 1) ++ (wOffer k (go 2) (u.1 2) ++ (wOffer k (go 3) (u.1 3) ++ (wOffer k (go 4) (u.1 4) ++ (wOffer k (go 5) (u.1 5) ++ (wPlanner k gL u.2.1 (gU 0) ++ (wUses k gU u.2.2)))))))))))) C hP hD hS (Nat.le_of_ble_eq_true rfl) (Nat.le_of_ble_eq_true rfl) ⟨_, rfl, h⟩ d_Till_tryOffer_114
    · replace h := h.2 c16
      exact thr (u := (ω15, κ, υ)) (wf := (fun u : (Nat → St) × (St) × (St) => wTill k gX θ (gT 0) (gB 0) x_keptUnits (gL 0) x_plan x_receipts ++ (wBasket k gB β ++ (wTariff k gT τ (fun i => some (go i 0)) ++ (wOffer k (go 0) (u.1 0) ++ (wOffer k (go 1) (u.1 1) ++ (wOffer k (go 2) (u.1 2) ++ (wOffer k (go 3) (u.1 3) ++ (wOffer k (go 4) (u.1 4) ++ (wOffer k (go 5) (u.1 5) ++ (wPlanner k gL u.2.1 (gU 0) ++ (wUses k gU u.2.2)))))))))))) (text := "the room would not do") C hX hlt hcx xOk_uo (by decide +kernel) kw_411 kw_18 (by decide +kernel) hP hD hS hl.1 d_Till_tryOffer_102 d_Till_tryOffer_105 d_Till_tryOffer_106 d_Till_tryOffer_108 d_Till_tryOffer_111 (Nat.le_of_ble_eq_true rfl) (Nat.le_of_ble_eq_true rfl) (Nat.le_of_ble_eq_true rfl) (Nat.le_of_ble_eq_true rfl) (Nat.le_refl _) (Nat.le_refl _) h
  · subst e9
    try simp only [show (nI 5).toNatClampNeg = 5 from rfl] at h
    replace hl : lv_has ls 5 [(3, .int x3), (4, .int x4)] := hl
    refine W.eq (g2 := F0 m 95 ls [.int y0, .ref ((go 5) 0)]) rfl ?_
    obtain ⟨hz14, h⟩ := h
    refine va_put (D := D) (ci := 1) (v := .int y0) (ty := .boolean) (C := R_Offer) (T := F_Offer) (N := 6) hx hb hts in_Offer t_Offer tt_Offer n_Offer hown hK hP hD hS 17 rfl rfl 4 (by decide) (hts _ kw_64) (fun _ h9 => h9) rfl (by decide +kernel) hz14.1 hz14.2 (Nat.le_of_ble_eq_true rfl) d_Till_tryOffer_95 (fun H locs hP hD hS => ?_)
    obtain ⟨ω15, eω15⟩ : ∃ z, z = va_up ω 5 (s2 (ω 5) 4 0 y0) := ⟨_, rfl⟩
    replace hP : va_P D CL (wTill k gX θ (gT 0) (gB 0) x_keptUnits (gL 0) x_plan x_receipts ++ (wBasket k gB β ++ (wTariff k gT τ (fun i => some (go i 0)) ++ (wOffer k (go 0) (ω15 0) ++ (wOffer k (go 1) (ω15 1) ++ (wOffer k (go 2) (ω15 2) ++ (wOffer k (go 3) (ω15 3) ++ (wOffer k (go 4) (ω15 4) ++ (wOffer k (go 5) (ω15 5) ++ (wPlanner k gL κ (gU 0) ++ (wUses k gU υ))))))))))) H := by rw [eω15]; exact hP
    replace hD : va_D A (wTill k gX θ (gT 0) (gB 0) x_keptUnits (gL 0) x_plan x_receipts ++ (wBasket k gB β ++ (wTariff k gT τ (fun i => some (go i 0)) ++ (wOffer k (go 0) (ω15 0) ++ (wOffer k (go 1) (ω15 1) ++ (wOffer k (go 2) (ω15 2) ++ (wOffer k (go 3) (ω15 3) ++ (wOffer k (go 4) (ω15 4) ++ (wOffer k (go 5) (ω15 5) ++ (wPlanner k gL κ (gU 0) ++ (wUses k gU υ))))))))))) := by rw [eω15]; exact hD
    replace h := h ω15 eω15
    refine lv_iload_n hx hb d_Till_tryOffer_98 rfl (lv_at hl 0 rfl) ?_
    refine lv_if_ne (tgt := 112) hx hb d_Till_tryOffer_99 (by decide) (fun c16 => ?_) (fun c16 => ?_)
    · replace h := h.1 c16
      refine lv_iload hx hb d_Till_tryOffer_112 (lv_at hl 1 rfl) ?_
      exact retX_i (u := (ω15, κ, υ)) (wf := (fun u : (Nat → St) × (St) × (St) => wTill k gX θ (gT 0) (gB 0) x_keptUnits (gL 0) x_plan x_receipts ++ (wBasket k gB β ++ (wTariff k gT τ (fun i => some (go i 0)) ++ (wOffer k (go 0) (u.1 0) ++ (wOffer k (go 1) (u.1 1) ++ (wOffer k (go 2) (u.1 2) ++ (wOffer k (go 3) (u.1 3) ++ (wOffer k (go 4) (u.1 4) ++ (wOffer k (go 5) (u.1 5) ++ (wPlanner k gL u.2.1 (gU 0) ++ (wUses k gU u.2.2)))))))))))) C hP hD hS (Nat.le_of_ble_eq_true rfl) (Nat.le_of_ble_eq_true rfl) ⟨_, rfl, h⟩ d_Till_tryOffer_114
    · replace h := h.2 c16
      exact thr (u := (ω15, κ, υ)) (wf := (fun u : (Nat → St) × (St) × (St) => wTill k gX θ (gT 0) (gB 0) x_keptUnits (gL 0) x_plan x_receipts ++ (wBasket k gB β ++ (wTariff k gT τ (fun i => some (go i 0)) ++ (wOffer k (go 0) (u.1 0) ++ (wOffer k (go 1) (u.1 1) ++ (wOffer k (go 2) (u.1 2) ++ (wOffer k (go 3) (u.1 3) ++ (wOffer k (go 4) (u.1 4) ++ (wOffer k (go 5) (u.1 5) ++ (wPlanner k gL u.2.1 (gU 0) ++ (wUses k gU u.2.2)))))))))))) (text := "the room would not do") C hX hlt hcx xOk_uo (by decide +kernel) kw_411 kw_18 (by decide +kernel) hP hD hS hl.1 d_Till_tryOffer_102 d_Till_tryOffer_105 d_Till_tryOffer_106 d_Till_tryOffer_108 d_Till_tryOffer_111 (Nat.le_of_ble_eq_true rfl) (Nat.le_of_ble_eq_true rfl) (Nat.le_of_ble_eq_true rfl) (Nat.le_of_ble_eq_true rfl) (Nat.le_refl _) (Nat.le_refl _) h
set_option maxHeartbeats 4000000 in
set_option maxRecDepth 100000 in
theorem t_Till_tryOffer_80 {p : Program} {l : Launch} {e : Env} {s : State} {m : MethodId} {args : Array Value} {below : List Frame} {meth : Method} {c : Code} {A : Nat → Prop} {D : va_G} {k : Nat → ClassId} {gX : Nat → Nat} {gB : Nat → Nat} {gT : Nat → Nat} {go : Nat → Nat → Nat} {gL : Nat → Nat} {gU : Nat → Nat} {x_keptUnits : Nat} {x_plan : Nat} {x_receipts : Nat} (hlt : l.stackTraces = false) (hX : Xf D A s s.heap) (hcx : c.exceptionTable.isEmpty = true) {x1 : Int32} (C : Cx p s m args meth c D k "PromotionTill" b_Till_tryOffer 5 (some .int) A) (N : Nat) (θ : St) (β : St) (τ : St) (post : Int32 → ((Nat → St) × (St) × (St)) → Prop) (xp : String → ((Nat → St) × (St) × (St)) → Prop) :
    ∀ (x3 : Int32) (y0 : Int32) (ω : (Nat → St)) (κ : (St)) (υ : (St)) (H : Heap) (locs : List Loc) (ls : Array Slot), va_P D CL (wTill k gX θ (gT 0) (gB 0) x_keptUnits (gL 0) x_plan x_receipts ++ (wBasket k gB β ++ (wTariff k gT τ (fun i => some (go i 0)) ++ (wOffer k (go 0) (ω 0) ++ (wOffer k (go 1) (ω 1) ++ (wOffer k (go 2) (ω 2) ++ (wOffer k (go 3) (ω 3) ++ (wOffer k (go 4) (ω 4) ++ (wOffer k (go 5) (ω 5) ++ (wPlanner k gL κ (gU 0) ++ (wUses k gU υ))))))))))) H → va_D A (wTill k gX θ (gT 0) (gB 0) x_keptUnits (gL 0) x_plan x_receipts ++ (wBasket k gB β ++ (wTariff k gT τ (fun i => some (go i 0)) ++ (wOffer k (go 0) (ω 0) ++ (wOffer k (go 1) (ω 1) ++ (wOffer k (go 2) (ω 2) ++ (wOffer k (go 3) (ω 3) ++ (wOffer k (go 4) (ω 4) ++ (wOffer k (go 5) (ω 5) ++ (wPlanner k gL κ (gU 0) ++ (wUses k gU υ))))))))))) → va_S A s.heap H locs → lv_has ls 5 [(2, .ref ((go (Int32.toNatClampNeg x1)) 0)), (3, .int x3)] → wp_Till_tryOffer_80 N θ β τ x1 post xp x3 y0 ω κ υ → W p l e rm_Till_tryOffer s m args below meth c H locs 1 6 (XQ below D A (fun u : (Nat → St) × (St) × (St) => wTill k gX θ (gT 0) (gB 0) x_keptUnits (gL 0) x_plan x_receipts ++ (wBasket k gB β ++ (wTariff k gT τ (fun i => some (go i 0)) ++ (wOffer k (go 0) (u.1 0) ++ (wOffer k (go 1) (u.1 1) ++ (wOffer k (go 2) (u.1 2) ++ (wOffer k (go 3) (u.1 3) ++ (wOffer k (go 4) (u.1 4) ++ (wOffer k (go 5) (u.1 5) ++ (wPlanner k gL u.2.1 (gU 0) ++ (wUses k gU u.2.2))))))))))) (fun v (u : (Nat → St) × (St) × (St)) => ∃ r : Int32, v = some (.int r) ∧ post r u) xp s rm_Till_tryOffer.cells rm_Till_tryOffer.slots) (F0 m 80 ls [.int y0]) := by
  obtain ⟨hx, hb, hr, hlk, hml, hown, hts, hK, hA⟩ := id C
  obtain ⟨t9, hZ9, hT9, hE9⟩ := id hX.2
  intro x3 y0 ω κ υ H locs ls hP hD hS hl h
  unfold wp_Till_tryOffer_80 at h
  obtain ⟨hi9, h⟩ := h
  obtain ⟨i9, hj9, e9⟩ := vp_in_of hi9 (by decide)
  rcases (show i9 = 0 ∨ i9 = 1 ∨ i9 = 2 ∨ i9 = 3 ∨ i9 = 4 ∨ i9 = 5 by omega) with rfl | rfl | rfl | rfl | rfl | rfl
  · subst e9
    try simp only [show (nI 0).toNatClampNeg = 0 from rfl] at h
    replace hl : lv_has ls 5 [(2, .ref ((go 0) 0)), (3, .int x3)] := hl
    refine W.eq (g2 := F0 m 80 ls [.int y0]) rfl ?_
    refine lv_istore (lv' := [(4, .int y0), (2, .ref ((go 0) 0)), (3, .int x3)]) hx hb d_Till_tryOffer_80 hl (by decide) rfl (fun ls hl => ?_)
    refine lv_aload_n hx hb d_Till_tryOffer_82 rfl (lv_at hl 1 rfl) ?_
    refine lv_aload_n hx hb d_Till_tryOffer_83 rfl (lv_at hl 1 rfl) ?_
    refine va_get (D := D) (ci := 1) (v := .int ((ω 0) 4 0)) (C := R_Offer) (T := F_Offer) (N := 6) hx hb hts in_Offer hown hK hP 7 rfl rfl 4 (by decide) (hts _ kw_64) (fun _ h9 => h9) rfl d_Till_tryOffer_84 ?_
    refine lv_if_ne (tgt := 94) hx hb d_Till_tryOffer_87 (by decide) (fun c13 => ?_) (fun c13 => ?_)
    · replace h := h.1 c13
      refine lv_iconst (v := 0) hx hb d_Till_tryOffer_94 (by decide) ?_
      refine W.widen (k := 1) (n := 6) (Nat.le_of_ble_eq_true rfl) (Nat.le_of_ble_eq_true rfl) ?_
      exact t_Till_tryOffer_95 hlt hX hcx C N θ β τ post xp x3 y0 0 ω κ υ _ _ _ hP hD hS (lv_sub hl [2, 0] rfl) h
    · replace h := h.2 c13
      refine lv_iconst (v := 1) hx hb d_Till_tryOffer_90 (by decide) ?_
      refine lv_goto (tgt := 95) hx hb d_Till_tryOffer_91 (by decide) ?_
      refine W.widen (k := 1) (n := 6) (Nat.le_of_ble_eq_true rfl) (Nat.le_of_ble_eq_true rfl) ?_
      exact t_Till_tryOffer_95 hlt hX hcx C N θ β τ post xp x3 y0 1 ω κ υ _ _ _ hP hD hS (lv_sub hl [2, 0] rfl) h
  · subst e9
    try simp only [show (nI 1).toNatClampNeg = 1 from rfl] at h
    replace hl : lv_has ls 5 [(2, .ref ((go 1) 0)), (3, .int x3)] := hl
    refine W.eq (g2 := F0 m 80 ls [.int y0]) rfl ?_
    refine lv_istore (lv' := [(4, .int y0), (2, .ref ((go 1) 0)), (3, .int x3)]) hx hb d_Till_tryOffer_80 hl (by decide) rfl (fun ls hl => ?_)
    refine lv_aload_n hx hb d_Till_tryOffer_82 rfl (lv_at hl 1 rfl) ?_
    refine lv_aload_n hx hb d_Till_tryOffer_83 rfl (lv_at hl 1 rfl) ?_
    refine va_get (D := D) (ci := 1) (v := .int ((ω 1) 4 0)) (C := R_Offer) (T := F_Offer) (N := 6) hx hb hts in_Offer hown hK hP 9 rfl rfl 4 (by decide) (hts _ kw_64) (fun _ h9 => h9) rfl d_Till_tryOffer_84 ?_
    refine lv_if_ne (tgt := 94) hx hb d_Till_tryOffer_87 (by decide) (fun c13 => ?_) (fun c13 => ?_)
    · replace h := h.1 c13
      refine lv_iconst (v := 0) hx hb d_Till_tryOffer_94 (by decide) ?_
      refine W.widen (k := 1) (n := 6) (Nat.le_of_ble_eq_true rfl) (Nat.le_of_ble_eq_true rfl) ?_
      exact t_Till_tryOffer_95 hlt hX hcx C N θ β τ post xp x3 y0 0 ω κ υ _ _ _ hP hD hS (lv_sub hl [2, 0] rfl) h
    · replace h := h.2 c13
      refine lv_iconst (v := 1) hx hb d_Till_tryOffer_90 (by decide) ?_
      refine lv_goto (tgt := 95) hx hb d_Till_tryOffer_91 (by decide) ?_
      refine W.widen (k := 1) (n := 6) (Nat.le_of_ble_eq_true rfl) (Nat.le_of_ble_eq_true rfl) ?_
      exact t_Till_tryOffer_95 hlt hX hcx C N θ β τ post xp x3 y0 1 ω κ υ _ _ _ hP hD hS (lv_sub hl [2, 0] rfl) h
  · subst e9
    try simp only [show (nI 2).toNatClampNeg = 2 from rfl] at h
    replace hl : lv_has ls 5 [(2, .ref ((go 2) 0)), (3, .int x3)] := hl
    refine W.eq (g2 := F0 m 80 ls [.int y0]) rfl ?_
    refine lv_istore (lv' := [(4, .int y0), (2, .ref ((go 2) 0)), (3, .int x3)]) hx hb d_Till_tryOffer_80 hl (by decide) rfl (fun ls hl => ?_)
    refine lv_aload_n hx hb d_Till_tryOffer_82 rfl (lv_at hl 1 rfl) ?_
    refine lv_aload_n hx hb d_Till_tryOffer_83 rfl (lv_at hl 1 rfl) ?_
    refine va_get (D := D) (ci := 1) (v := .int ((ω 2) 4 0)) (C := R_Offer) (T := F_Offer) (N := 6) hx hb hts in_Offer hown hK hP 11 rfl rfl 4 (by decide) (hts _ kw_64) (fun _ h9 => h9) rfl d_Till_tryOffer_84 ?_
    refine lv_if_ne (tgt := 94) hx hb d_Till_tryOffer_87 (by decide) (fun c13 => ?_) (fun c13 => ?_)
    · replace h := h.1 c13
      refine lv_iconst (v := 0) hx hb d_Till_tryOffer_94 (by decide) ?_
      refine W.widen (k := 1) (n := 6) (Nat.le_of_ble_eq_true rfl) (Nat.le_of_ble_eq_true rfl) ?_
      exact t_Till_tryOffer_95 hlt hX hcx C N θ β τ post xp x3 y0 0 ω κ υ _ _ _ hP hD hS (lv_sub hl [2, 0] rfl) h
    · replace h := h.2 c13
      refine lv_iconst (v := 1) hx hb d_Till_tryOffer_90 (by decide) ?_
      refine lv_goto (tgt := 95) hx hb d_Till_tryOffer_91 (by decide) ?_
      refine W.widen (k := 1) (n := 6) (Nat.le_of_ble_eq_true rfl) (Nat.le_of_ble_eq_true rfl) ?_
      exact t_Till_tryOffer_95 hlt hX hcx C N θ β τ post xp x3 y0 1 ω κ υ _ _ _ hP hD hS (lv_sub hl [2, 0] rfl) h
  · subst e9
    try simp only [show (nI 3).toNatClampNeg = 3 from rfl] at h
    replace hl : lv_has ls 5 [(2, .ref ((go 3) 0)), (3, .int x3)] := hl
    refine W.eq (g2 := F0 m 80 ls [.int y0]) rfl ?_
    refine lv_istore (lv' := [(4, .int y0), (2, .ref ((go 3) 0)), (3, .int x3)]) hx hb d_Till_tryOffer_80 hl (by decide) rfl (fun ls hl => ?_)
    refine lv_aload_n hx hb d_Till_tryOffer_82 rfl (lv_at hl 1 rfl) ?_
    refine lv_aload_n hx hb d_Till_tryOffer_83 rfl (lv_at hl 1 rfl) ?_
    refine va_get (D := D) (ci := 1) (v := .int ((ω 3) 4 0)) (C := R_Offer) (T := F_Offer) (N := 6) hx hb hts in_Offer hown hK hP 13 rfl rfl 4 (by decide) (hts _ kw_64) (fun _ h9 => h9) rfl d_Till_tryOffer_84 ?_
    refine lv_if_ne (tgt := 94) hx hb d_Till_tryOffer_87 (by decide) (fun c13 => ?_) (fun c13 => ?_)
    · replace h := h.1 c13
      refine lv_iconst (v := 0) hx hb d_Till_tryOffer_94 (by decide) ?_
      refine W.widen (k := 1) (n := 6) (Nat.le_of_ble_eq_true rfl) (Nat.le_of_ble_eq_true rfl) ?_
      exact t_Till_tryOffer_95 hlt hX hcx C N θ β τ post xp x3 y0 0 ω κ υ _ _ _ hP hD hS (lv_sub hl [2, 0] rfl) h
    · replace h := h.2 c13
      refine lv_iconst (v := 1) hx hb d_Till_tryOffer_90 (by decide) ?_
      refine lv_goto (tgt := 95) hx hb d_Till_tryOffer_91 (by decide) ?_
      refine W.widen (k := 1) (n := 6) (Nat.le_of_ble_eq_true rfl) (Nat.le_of_ble_eq_true rfl) ?_
      exact t_Till_tryOffer_95 hlt hX hcx C N θ β τ post xp x3 y0 1 ω κ υ _ _ _ hP hD hS (lv_sub hl [2, 0] rfl) h
  · subst e9
    try simp only [show (nI 4).toNatClampNeg = 4 from rfl] at h
    replace hl : lv_has ls 5 [(2, .ref ((go 4) 0)), (3, .int x3)] := hl
    refine W.eq (g2 := F0 m 80 ls [.int y0]) rfl ?_
    refine lv_istore (lv' := [(4, .int y0), (2, .ref ((go 4) 0)), (3, .int x3)]) hx hb d_Till_tryOffer_80 hl (by decide) rfl (fun ls hl => ?_)
    refine lv_aload_n hx hb d_Till_tryOffer_82 rfl (lv_at hl 1 rfl) ?_
    refine lv_aload_n hx hb d_Till_tryOffer_83 rfl (lv_at hl 1 rfl) ?_
    refine va_get (D := D) (ci := 1) (v := .int ((ω 4) 4 0)) (C := R_Offer) (T := F_Offer) (N := 6) hx hb hts in_Offer hown hK hP 15 rfl rfl 4 (by decide) (hts _ kw_64) (fun _ h9 => h9) rfl d_Till_tryOffer_84 ?_
    refine lv_if_ne (tgt := 94) hx hb d_Till_tryOffer_87 (by decide) (fun c13 => ?_) (fun c13 => ?_)
    · replace h := h.1 c13
      refine lv_iconst (v := 0) hx hb d_Till_tryOffer_94 (by decide) ?_
      refine W.widen (k := 1) (n := 6) (Nat.le_of_ble_eq_true rfl) (Nat.le_of_ble_eq_true rfl) ?_
      exact t_Till_tryOffer_95 hlt hX hcx C N θ β τ post xp x3 y0 0 ω κ υ _ _ _ hP hD hS (lv_sub hl [2, 0] rfl) h
    · replace h := h.2 c13
      refine lv_iconst (v := 1) hx hb d_Till_tryOffer_90 (by decide) ?_
      refine lv_goto (tgt := 95) hx hb d_Till_tryOffer_91 (by decide) ?_
      refine W.widen (k := 1) (n := 6) (Nat.le_of_ble_eq_true rfl) (Nat.le_of_ble_eq_true rfl) ?_
      exact t_Till_tryOffer_95 hlt hX hcx C N θ β τ post xp x3 y0 1 ω κ υ _ _ _ hP hD hS (lv_sub hl [2, 0] rfl) h
  · subst e9
    try simp only [show (nI 5).toNatClampNeg = 5 from rfl] at h
    replace hl : lv_has ls 5 [(2, .ref ((go 5) 0)), (3, .int x3)] := hl
    refine W.eq (g2 := F0 m 80 ls [.int y0]) rfl ?_
    refine lv_istore (lv' := [(4, .int y0), (2, .ref ((go 5) 0)), (3, .int x3)]) hx hb d_Till_tryOffer_80 hl (by decide) rfl (fun ls hl => ?_)
    refine lv_aload_n hx hb d_Till_tryOffer_82 rfl (lv_at hl 1 rfl) ?_
    refine lv_aload_n hx hb d_Till_tryOffer_83 rfl (lv_at hl 1 rfl) ?_
    refine va_get (D := D) (ci := 1) (v := .int ((ω 5) 4 0)) (C := R_Offer) (T := F_Offer) (N := 6) hx hb hts in_Offer hown hK hP 17 rfl rfl 4 (by decide) (hts _ kw_64) (fun _ h9 => h9) rfl d_Till_tryOffer_84 ?_
    refine lv_if_ne (tgt := 94) hx hb d_Till_tryOffer_87 (by decide) (fun c13 => ?_) (fun c13 => ?_)
    · replace h := h.1 c13
      refine lv_iconst (v := 0) hx hb d_Till_tryOffer_94 (by decide) ?_
      refine W.widen (k := 1) (n := 6) (Nat.le_of_ble_eq_true rfl) (Nat.le_of_ble_eq_true rfl) ?_
      exact t_Till_tryOffer_95 hlt hX hcx C N θ β τ post xp x3 y0 0 ω κ υ _ _ _ hP hD hS (lv_sub hl [2, 0] rfl) h
    · replace h := h.2 c13
      refine lv_iconst (v := 1) hx hb d_Till_tryOffer_90 (by decide) ?_
      refine lv_goto (tgt := 95) hx hb d_Till_tryOffer_91 (by decide) ?_
      refine W.widen (k := 1) (n := 6) (Nat.le_of_ble_eq_true rfl) (Nat.le_of_ble_eq_true rfl) ?_
      exact t_Till_tryOffer_95 hlt hX hcx C N θ β τ post xp x3 y0 1 ω κ υ _ _ _ hP hD hS (lv_sub hl [2, 0] rfl) h
set_option maxHeartbeats 4000000 in
set_option maxRecDepth 100000 in
theorem t_Till_tryOffer_56 {p : Program} {l : Launch} {e : Env} {s : State} {m : MethodId} {args : Array Value} {below : List Frame} {meth : Method} {c : Code} {A : Nat → Prop} {D : va_G} {k : Nat → ClassId} {gX : Nat → Nat} {gB : Nat → Nat} {gT : Nat → Nat} {go : Nat → Nat → Nat} {gL : Nat → Nat} {gU : Nat → Nat} {x_keptUnits : Nat} {x_plan : Nat} {x_receipts : Nat} (hlt : l.stackTraces = false) (hX : Xf D A s s.heap) (hcx : c.exceptionTable.isEmpty = true) {x1 : Int32} (C : Cx p s m args meth c D k "PromotionTill" b_Till_tryOffer 5 (some .int) A) (N : Nat) (θ : St) (β : St) (τ : St) (post : Int32 → ((Nat → St) × (St) × (St)) → Prop) (xp : String → ((Nat → St) × (St) × (St)) → Prop) :
    ∀ (y0 : Int32) (ω : (Nat → St)) (κ : (St)) (υ : (St)) (H : Heap) (locs : List Loc) (ls : Array Slot), va_P D CL (wTill k gX θ (gT 0) (gB 0) x_keptUnits (gL 0) x_plan x_receipts ++ (wBasket k gB β ++ (wTariff k gT τ (fun i => some (go i 0)) ++ (wOffer k (go 0) (ω 0) ++ (wOffer k (go 1) (ω 1) ++ (wOffer k (go 2) (ω 2) ++ (wOffer k (go 3) (ω 3) ++ (wOffer k (go 4) (ω 4) ++ (wOffer k (go 5) (ω 5) ++ (wPlanner k gL κ (gU 0) ++ (wUses k gU υ))))))))))) H → va_D A (wTill k gX θ (gT 0) (gB 0) x_keptUnits (gL 0) x_plan x_receipts ++ (wBasket k gB β ++ (wTariff k gT τ (fun i => some (go i 0)) ++ (wOffer k (go 0) (ω 0) ++ (wOffer k (go 1) (ω 1) ++ (wOffer k (go 2) (ω 2) ++ (wOffer k (go 3) (ω 3) ++ (wOffer k (go 4) (ω 4) ++ (wOffer k (go 5) (ω 5) ++ (wPlanner k gL κ (gU 0) ++ (wUses k gU υ))))))))))) → va_S A s.heap H locs → lv_has ls 5 [(0, .ref (gX 0)), (2, .ref ((go (Int32.toNatClampNeg x1)) 0))] → wp_Till_tryOffer_56 N θ β τ x1 post xp y0 ω κ υ → W p l e rm_Till_tryOffer s m args below meth c H locs 1 6 (XQ below D A (fun u : (Nat → St) × (St) × (St) => wTill k gX θ (gT 0) (gB 0) x_keptUnits (gL 0) x_plan x_receipts ++ (wBasket k gB β ++ (wTariff k gT τ (fun i => some (go i 0)) ++ (wOffer k (go 0) (u.1 0) ++ (wOffer k (go 1) (u.1 1) ++ (wOffer k (go 2) (u.1 2) ++ (wOffer k (go 3) (u.1 3) ++ (wOffer k (go 4) (u.1 4) ++ (wOffer k (go 5) (u.1 5) ++ (wPlanner k gL u.2.1 (gU 0) ++ (wUses k gU u.2.2))))))))))) (fun v (u : (Nat → St) × (St) × (St)) => ∃ r : Int32, v = some (.int r) ∧ post r u) xp s rm_Till_tryOffer.cells rm_Till_tryOffer.slots) (F0 m 56 ls [.int y0]) := by
  obtain ⟨hx, hb, hr, hlk, hml, hown, hts, hK, hA⟩ := id C
  obtain ⟨t9, hZ9, hT9, hE9⟩ := id hX.2
  intro y0 ω κ υ H locs ls hP hD hS hl h
  unfold wp_Till_tryOffer_56 at h
  obtain ⟨hi9, h⟩ := h
  obtain ⟨i9, hj9, e9⟩ := vp_in_of hi9 (by decide)
  rcases (show i9 = 0 ∨ i9 = 1 ∨ i9 = 2 ∨ i9 = 3 ∨ i9 = 4 ∨ i9 = 5 by omega) with rfl | rfl | rfl | rfl | rfl | rfl
  · subst e9
    try simp only [show (nI 0).toNatClampNeg = 0 from rfl] at h
    replace hl : lv_has ls 5 [(0, .ref (gX 0)), (2, .ref ((go 0) 0))] := hl
    refine W.eq (g2 := F0 m 56 ls [.int y0]) rfl ?_
    refine lv_istore_n (lv' := [(3, .int y0), (0, .ref (gX 0)), (2, .ref ((go 0) 0))]) hx hb d_Till_tryOffer_56 rfl hl (by decide) rfl (fun ls hl => ?_)
    refine lv_iload_n hx hb d_Till_tryOffer_57 rfl (lv_at hl 0 rfl) ?_
    refine lv_if_eq (tgt := 79) hx hb d_Till_tryOffer_58 (by decide) (fun c10 => ?_) (fun c10 => ?_)
    · replace h := h.1 c10
      refine lv_iconst (v := 0) hx hb d_Till_tryOffer_79 (by decide) ?_
      refine W.widen (k := 1) (n := 6) (Nat.le_of_ble_eq_true rfl) (Nat.le_of_ble_eq_true rfl) ?_
      exact t_Till_tryOffer_80 hlt hX hcx C N θ β τ post xp y0 0 ω κ υ _ _ _ hP hD hS (lv_sub hl [2, 0] rfl) h
    · replace h := h.2 c10
      refine lv_aload_n hx hb d_Till_tryOffer_61 rfl (lv_at hl 1 rfl) ?_
      refine va_get (D := D) (ci := 7) (v := .ref (gL 0)) (C := R_Till) (T := F_Till) (N := 9) hx hb hts in_Till hown hK hP 0 rfl rfl 4 (by decide) (hts _ kw_240) (fun _ h9 => h9) rfl d_Till_tryOffer_62 ?_
      refine lv_aload_n hx hb d_Till_tryOffer_65 rfl (lv_at hl 1 rfl) ?_
      refine va_get (D := D) (ci := 7) (v := .ref (gT 0)) (C := R_Till) (T := F_Till) (N := 9) hx hb hts in_Till hown hK hP 0 rfl rfl 0 (by decide) (hts _ kw_236) (fun _ h9 => h9) rfl d_Till_tryOffer_66 ?_
      refine lv_aload_n hx hb d_Till_tryOffer_69 rfl (lv_at hl 1 rfl) ?_
      refine va_get (D := D) (ci := 7) (v := .ref (gB 0)) (C := R_Till) (T := F_Till) (N := 9) hx hb hts in_Till hown hK hP 0 rfl rfl 2 (by decide) (hts _ kw_238) (fun _ h9 => h9) rfl d_Till_tryOffer_70 ?_
      refine call_i (wr := [(gX 0, .inr (7, [.ref (gT 0), .ref (gX 1), .ref (gB 0), .ref x_keptUnits, .ref (gL 0), .ref x_plan, .ref x_receipts, .int (θ 7 0), .int (θ 8 0)])), (gX 1, .inl (k 0, 12, .inl (θ 1)))]) (wn := (fun u11 : (St) × (St) => wTill k gX θ (gT 0) (gB 0) x_keptUnits (gL 0) x_plan x_receipts ++ (wBasket k gB β ++ (wTariff k gT τ (fun i => some (go i 0)) ++ (wOffer k (go 0) (ω 0) ++ (wOffer k (go 1) (ω 1) ++ (wOffer k (go 2) (ω 2) ++ (wOffer k (go 3) (ω 3) ++ (wOffer k (go 4) (ω 4) ++ (wOffer k (go 5) (ω 5) ++ (wPlanner k gL u11.1 (gU 0) ++ (wUses k gU u11.2)))))))))))) C hP hD hS [19, 20, 21, 22, 23, 24, 25, 26, 27, 28, 29, 30, 31, 32, 4, 5, 6, 7, 8, 9, 10, 11, 12, 13, 14, 15, 16, 17, 18, 2, 3] [0, 1] [0, 1, 31, 32, 16, 17, 18, 19, 20, 21, 22, 23, 24, 25, 26, 27, 28, 29, 30, 2, 3, 4, 5, 6, 7, 8, 9, 10, 11, 12, 13, 14, 15] rfl rfl (by decide) (by decide) (fun _ => rfl) (by decide) (runV (As := [.ref (gT 0), .ref (gB 0)]) (rest := []) C (hP.sub [19, 20, 21, 22, 23, 24, 25, 26, 27, 28, 29, 30, 31, 32, 4, 5, 6, 7, 8, 9, 10, 11, 12, 13, 14, 15, 16, 17, 18, 2, 3] rfl) (hD.sub [19, 20, 21, 22, 23, 24, 25, 26, 27, 28, 29, 30, 31, 32, 4, 5, 6, 7, 8, 9, 10, 11, 12, 13, 14, 15, 16, 17, 18, 2, 3] (by decide) rfl) (m_Planner_leastTotal N gL gU gT go gB κ υ τ ω β   _ h H.size) kw_676 kw_677 kw_678 kw_6 kw_679 hd_Planner_leastTotal ⟨Nat.le_of_ble_eq_true rfl, Nat.le_of_ble_eq_true rfl⟩ ⟨Nat.le_of_ble_eq_true rfl, Nat.le_of_ble_eq_true rfl⟩ 0 rfl rfl rfl rfl hl.1 (Nat.le_of_ble_eq_true rfl) d_Till_tryOffer_73) (fun r12 u11 H locs h hP hD hS => ?_)
      try dsimp only at h
      refine lv_goto (tgt := 80) hx hb d_Till_tryOffer_76 (by decide) ?_
      refine W.widen (k := 1) (n := 6) (Nat.le_of_ble_eq_true rfl) (Nat.le_of_ble_eq_true rfl) ?_
      exact t_Till_tryOffer_80 hlt hX hcx C N θ β τ post xp y0 r12 ω u11.1 u11.2 _ _ _ hP hD hS (lv_sub hl [2, 0] rfl) h
  · subst e9
    try simp only [show (nI 1).toNatClampNeg = 1 from rfl] at h
    replace hl : lv_has ls 5 [(0, .ref (gX 0)), (2, .ref ((go 1) 0))] := hl
    refine W.eq (g2 := F0 m 56 ls [.int y0]) rfl ?_
    refine lv_istore_n (lv' := [(3, .int y0), (0, .ref (gX 0)), (2, .ref ((go 1) 0))]) hx hb d_Till_tryOffer_56 rfl hl (by decide) rfl (fun ls hl => ?_)
    refine lv_iload_n hx hb d_Till_tryOffer_57 rfl (lv_at hl 0 rfl) ?_
    refine lv_if_eq (tgt := 79) hx hb d_Till_tryOffer_58 (by decide) (fun c10 => ?_) (fun c10 => ?_)
    · replace h := h.1 c10
      refine lv_iconst (v := 0) hx hb d_Till_tryOffer_79 (by decide) ?_
      refine W.widen (k := 1) (n := 6) (Nat.le_of_ble_eq_true rfl) (Nat.le_of_ble_eq_true rfl) ?_
      exact t_Till_tryOffer_80 hlt hX hcx C N θ β τ post xp y0 0 ω κ υ _ _ _ hP hD hS (lv_sub hl [2, 0] rfl) h
    · replace h := h.2 c10
      refine lv_aload_n hx hb d_Till_tryOffer_61 rfl (lv_at hl 1 rfl) ?_
      refine va_get (D := D) (ci := 7) (v := .ref (gL 0)) (C := R_Till) (T := F_Till) (N := 9) hx hb hts in_Till hown hK hP 0 rfl rfl 4 (by decide) (hts _ kw_240) (fun _ h9 => h9) rfl d_Till_tryOffer_62 ?_
      refine lv_aload_n hx hb d_Till_tryOffer_65 rfl (lv_at hl 1 rfl) ?_
      refine va_get (D := D) (ci := 7) (v := .ref (gT 0)) (C := R_Till) (T := F_Till) (N := 9) hx hb hts in_Till hown hK hP 0 rfl rfl 0 (by decide) (hts _ kw_236) (fun _ h9 => h9) rfl d_Till_tryOffer_66 ?_
      refine lv_aload_n hx hb d_Till_tryOffer_69 rfl (lv_at hl 1 rfl) ?_
      refine va_get (D := D) (ci := 7) (v := .ref (gB 0)) (C := R_Till) (T := F_Till) (N := 9) hx hb hts in_Till hown hK hP 0 rfl rfl 2 (by decide) (hts _ kw_238) (fun _ h9 => h9) rfl d_Till_tryOffer_70 ?_
      refine call_i (wr := [(gX 0, .inr (7, [.ref (gT 0), .ref (gX 1), .ref (gB 0), .ref x_keptUnits, .ref (gL 0), .ref x_plan, .ref x_receipts, .int (θ 7 0), .int (θ 8 0)])), (gX 1, .inl (k 0, 12, .inl (θ 1)))]) (wn := (fun u11 : (St) × (St) => wTill k gX θ (gT 0) (gB 0) x_keptUnits (gL 0) x_plan x_receipts ++ (wBasket k gB β ++ (wTariff k gT τ (fun i => some (go i 0)) ++ (wOffer k (go 0) (ω 0) ++ (wOffer k (go 1) (ω 1) ++ (wOffer k (go 2) (ω 2) ++ (wOffer k (go 3) (ω 3) ++ (wOffer k (go 4) (ω 4) ++ (wOffer k (go 5) (ω 5) ++ (wPlanner k gL u11.1 (gU 0) ++ (wUses k gU u11.2)))))))))))) C hP hD hS [19, 20, 21, 22, 23, 24, 25, 26, 27, 28, 29, 30, 31, 32, 4, 5, 6, 7, 8, 9, 10, 11, 12, 13, 14, 15, 16, 17, 18, 2, 3] [0, 1] [0, 1, 31, 32, 16, 17, 18, 19, 20, 21, 22, 23, 24, 25, 26, 27, 28, 29, 30, 2, 3, 4, 5, 6, 7, 8, 9, 10, 11, 12, 13, 14, 15] rfl rfl (by decide) (by decide) (fun _ => rfl) (by decide) (runV (As := [.ref (gT 0), .ref (gB 0)]) (rest := []) C (hP.sub [19, 20, 21, 22, 23, 24, 25, 26, 27, 28, 29, 30, 31, 32, 4, 5, 6, 7, 8, 9, 10, 11, 12, 13, 14, 15, 16, 17, 18, 2, 3] rfl) (hD.sub [19, 20, 21, 22, 23, 24, 25, 26, 27, 28, 29, 30, 31, 32, 4, 5, 6, 7, 8, 9, 10, 11, 12, 13, 14, 15, 16, 17, 18, 2, 3] (by decide) rfl) (m_Planner_leastTotal N gL gU gT go gB κ υ τ ω β   _ h H.size) kw_676 kw_677 kw_678 kw_6 kw_679 hd_Planner_leastTotal ⟨Nat.le_of_ble_eq_true rfl, Nat.le_of_ble_eq_true rfl⟩ ⟨Nat.le_of_ble_eq_true rfl, Nat.le_of_ble_eq_true rfl⟩ 0 rfl rfl rfl rfl hl.1 (Nat.le_of_ble_eq_true rfl) d_Till_tryOffer_73) (fun r12 u11 H locs h hP hD hS => ?_)
      try dsimp only at h
      refine lv_goto (tgt := 80) hx hb d_Till_tryOffer_76 (by decide) ?_
      refine W.widen (k := 1) (n := 6) (Nat.le_of_ble_eq_true rfl) (Nat.le_of_ble_eq_true rfl) ?_
      exact t_Till_tryOffer_80 hlt hX hcx C N θ β τ post xp y0 r12 ω u11.1 u11.2 _ _ _ hP hD hS (lv_sub hl [2, 0] rfl) h
  · subst e9
    try simp only [show (nI 2).toNatClampNeg = 2 from rfl] at h
    replace hl : lv_has ls 5 [(0, .ref (gX 0)), (2, .ref ((go 2) 0))] := hl
    refine W.eq (g2 := F0 m 56 ls [.int y0]) rfl ?_
    refine lv_istore_n (lv' := [(3, .int y0), (0, .ref (gX 0)), (2, .ref ((go 2) 0))]) hx hb d_Till_tryOffer_56 rfl hl (by decide) rfl (fun ls hl => ?_)
    refine lv_iload_n hx hb d_Till_tryOffer_57 rfl (lv_at hl 0 rfl) ?_
    refine lv_if_eq (tgt := 79) hx hb d_Till_tryOffer_58 (by decide) (fun c10 => ?_) (fun c10 => ?_)
    · replace h := h.1 c10
      refine lv_iconst (v := 0) hx hb d_Till_tryOffer_79 (by decide) ?_
      refine W.widen (k := 1) (n := 6) (Nat.le_of_ble_eq_true rfl) (Nat.le_of_ble_eq_true rfl) ?_
      exact t_Till_tryOffer_80 hlt hX hcx C N θ β τ post xp y0 0 ω κ υ _ _ _ hP hD hS (lv_sub hl [2, 0] rfl) h
    · replace h := h.2 c10
      refine lv_aload_n hx hb d_Till_tryOffer_61 rfl (lv_at hl 1 rfl) ?_
      refine va_get (D := D) (ci := 7) (v := .ref (gL 0)) (C := R_Till) (T := F_Till) (N := 9) hx hb hts in_Till hown hK hP 0 rfl rfl 4 (by decide) (hts _ kw_240) (fun _ h9 => h9) rfl d_Till_tryOffer_62 ?_
      refine lv_aload_n hx hb d_Till_tryOffer_65 rfl (lv_at hl 1 rfl) ?_
      refine va_get (D := D) (ci := 7) (v := .ref (gT 0)) (C := R_Till) (T := F_Till) (N := 9) hx hb hts in_Till hown hK hP 0 rfl rfl 0 (by decide) (hts _ kw_236) (fun _ h9 => h9) rfl d_Till_tryOffer_66 ?_
      refine lv_aload_n hx hb d_Till_tryOffer_69 rfl (lv_at hl 1 rfl) ?_
      refine va_get (D := D) (ci := 7) (v := .ref (gB 0)) (C := R_Till) (T := F_Till) (N := 9) hx hb hts in_Till hown hK hP 0 rfl rfl 2 (by decide) (hts _ kw_238) (fun _ h9 => h9) rfl d_Till_tryOffer_70 ?_
      refine call_i (wr := [(gX 0, .inr (7, [.ref (gT 0), .ref (gX 1), .ref (gB 0), .ref x_keptUnits, .ref (gL 0), .ref x_plan, .ref x_receipts, .int (θ 7 0), .int (θ 8 0)])), (gX 1, .inl (k 0, 12, .inl (θ 1)))]) (wn := (fun u11 : (St) × (St) => wTill k gX θ (gT 0) (gB 0) x_keptUnits (gL 0) x_plan x_receipts ++ (wBasket k gB β ++ (wTariff k gT τ (fun i => some (go i 0)) ++ (wOffer k (go 0) (ω 0) ++ (wOffer k (go 1) (ω 1) ++ (wOffer k (go 2) (ω 2) ++ (wOffer k (go 3) (ω 3) ++ (wOffer k (go 4) (ω 4) ++ (wOffer k (go 5) (ω 5) ++ (wPlanner k gL u11.1 (gU 0) ++ (wUses k gU u11.2)))))))))))) C hP hD hS [19, 20, 21, 22, 23, 24, 25, 26, 27, 28, 29, 30, 31, 32, 4, 5, 6, 7, 8, 9, 10, 11, 12, 13, 14, 15, 16, 17, 18, 2, 3] [0, 1] [0, 1, 31, 32, 16, 17, 18, 19, 20, 21, 22, 23, 24, 25, 26, 27, 28, 29, 30, 2, 3, 4, 5, 6, 7, 8, 9, 10, 11, 12, 13, 14, 15] rfl rfl (by decide) (by decide) (fun _ => rfl) (by decide) (runV (As := [.ref (gT 0), .ref (gB 0)]) (rest := []) C (hP.sub [19, 20, 21, 22, 23, 24, 25, 26, 27, 28, 29, 30, 31, 32, 4, 5, 6, 7, 8, 9, 10, 11, 12, 13, 14, 15, 16, 17, 18, 2, 3] rfl) (hD.sub [19, 20, 21, 22, 23, 24, 25, 26, 27, 28, 29, 30, 31, 32, 4, 5, 6, 7, 8, 9, 10, 11, 12, 13, 14, 15, 16, 17, 18, 2, 3] (by decide) rfl) (m_Planner_leastTotal N gL gU gT go gB κ υ τ ω β   _ h H.size) kw_676 kw_677 kw_678 kw_6 kw_679 hd_Planner_leastTotal ⟨Nat.le_of_ble_eq_true rfl, Nat.le_of_ble_eq_true rfl⟩ ⟨Nat.le_of_ble_eq_true rfl, Nat.le_of_ble_eq_true rfl⟩ 0 rfl rfl rfl rfl hl.1 (Nat.le_of_ble_eq_true rfl) d_Till_tryOffer_73) (fun r12 u11 H locs h hP hD hS => ?_)
      try dsimp only at h
      refine lv_goto (tgt := 80) hx hb d_Till_tryOffer_76 (by decide) ?_
      refine W.widen (k := 1) (n := 6) (Nat.le_of_ble_eq_true rfl) (Nat.le_of_ble_eq_true rfl) ?_
      exact t_Till_tryOffer_80 hlt hX hcx C N θ β τ post xp y0 r12 ω u11.1 u11.2 _ _ _ hP hD hS (lv_sub hl [2, 0] rfl) h
  · subst e9
    try simp only [show (nI 3).toNatClampNeg = 3 from rfl] at h
    replace hl : lv_has ls 5 [(0, .ref (gX 0)), (2, .ref ((go 3) 0))] := hl
    refine W.eq (g2 := F0 m 56 ls [.int y0]) rfl ?_
    refine lv_istore_n (lv' := [(3, .int y0), (0, .ref (gX 0)), (2, .ref ((go 3) 0))]) hx hb d_Till_tryOffer_56 rfl hl (by decide) rfl (fun ls hl => ?_)
    refine lv_iload_n hx hb d_Till_tryOffer_57 rfl (lv_at hl 0 rfl) ?_
    refine lv_if_eq (tgt := 79) hx hb d_Till_tryOffer_58 (by decide) (fun c10 => ?_) (fun c10 => ?_)
    · replace h := h.1 c10
      refine lv_iconst (v := 0) hx hb d_Till_tryOffer_79 (by decide) ?_
      refine W.widen (k := 1) (n := 6) (Nat.le_of_ble_eq_true rfl) (Nat.le_of_ble_eq_true rfl) ?_
      exact t_Till_tryOffer_80 hlt hX hcx C N θ β τ post xp y0 0 ω κ υ _ _ _ hP hD hS (lv_sub hl [2, 0] rfl) h
    · replace h := h.2 c10
      refine lv_aload_n hx hb d_Till_tryOffer_61 rfl (lv_at hl 1 rfl) ?_
      refine va_get (D := D) (ci := 7) (v := .ref (gL 0)) (C := R_Till) (T := F_Till) (N := 9) hx hb hts in_Till hown hK hP 0 rfl rfl 4 (by decide) (hts _ kw_240) (fun _ h9 => h9) rfl d_Till_tryOffer_62 ?_
      refine lv_aload_n hx hb d_Till_tryOffer_65 rfl (lv_at hl 1 rfl) ?_
      refine va_get (D := D) (ci := 7) (v := .ref (gT 0)) (C := R_Till) (T := F_Till) (N := 9) hx hb hts in_Till hown hK hP 0 rfl rfl 0 (by decide) (hts _ kw_236) (fun _ h9 => h9) rfl d_Till_tryOffer_66 ?_
      refine lv_aload_n hx hb d_Till_tryOffer_69 rfl (lv_at hl 1 rfl) ?_
      refine va_get (D := D) (ci := 7) (v := .ref (gB 0)) (C := R_Till) (T := F_Till) (N := 9) hx hb hts in_Till hown hK hP 0 rfl rfl 2 (by decide) (hts _ kw_238) (fun _ h9 => h9) rfl d_Till_tryOffer_70 ?_
      refine call_i (wr := [(gX 0, .inr (7, [.ref (gT 0), .ref (gX 1), .ref (gB 0), .ref x_keptUnits, .ref (gL 0), .ref x_plan, .ref x_receipts, .int (θ 7 0), .int (θ 8 0)])), (gX 1, .inl (k 0, 12, .inl (θ 1)))]) (wn := (fun u11 : (St) × (St) => wTill k gX θ (gT 0) (gB 0) x_keptUnits (gL 0) x_plan x_receipts ++ (wBasket k gB β ++ (wTariff k gT τ (fun i => some (go i 0)) ++ (wOffer k (go 0) (ω 0) ++ (wOffer k (go 1) (ω 1) ++ (wOffer k (go 2) (ω 2) ++ (wOffer k (go 3) (ω 3) ++ (wOffer k (go 4) (ω 4) ++ (wOffer k (go 5) (ω 5) ++ (wPlanner k gL u11.1 (gU 0) ++ (wUses k gU u11.2)))))))))))) C hP hD hS [19, 20, 21, 22, 23, 24, 25, 26, 27, 28, 29, 30, 31, 32, 4, 5, 6, 7, 8, 9, 10, 11, 12, 13, 14, 15, 16, 17, 18, 2, 3] [0, 1] [0, 1, 31, 32, 16, 17, 18, 19, 20, 21, 22, 23, 24, 25, 26, 27, 28, 29, 30, 2, 3, 4, 5, 6, 7, 8, 9, 10, 11, 12, 13, 14, 15] rfl rfl (by decide) (by decide) (fun _ => rfl) (by decide) (runV (As := [.ref (gT 0), .ref (gB 0)]) (rest := []) C (hP.sub [19, 20, 21, 22, 23, 24, 25, 26, 27, 28, 29, 30, 31, 32, 4, 5, 6, 7, 8, 9, 10, 11, 12, 13, 14, 15, 16, 17, 18, 2, 3] rfl) (hD.sub [19, 20, 21, 22, 23, 24, 25, 26, 27, 28, 29, 30, 31, 32, 4, 5, 6, 7, 8, 9, 10, 11, 12, 13, 14, 15, 16, 17, 18, 2, 3] (by decide) rfl) (m_Planner_leastTotal N gL gU gT go gB κ υ τ ω β   _ h H.size) kw_676 kw_677 kw_678 kw_6 kw_679 hd_Planner_leastTotal ⟨Nat.le_of_ble_eq_true rfl, Nat.le_of_ble_eq_true rfl⟩ ⟨Nat.le_of_ble_eq_true rfl, Nat.le_of_ble_eq_true rfl⟩ 0 rfl rfl rfl rfl hl.1 (Nat.le_of_ble_eq_true rfl) d_Till_tryOffer_73) (fun r12 u11 H locs h hP hD hS => ?_)
      try dsimp only at h
      refine lv_goto (tgt := 80) hx hb d_Till_tryOffer_76 (by decide) ?_
      refine W.widen (k := 1) (n := 6) (Nat.le_of_ble_eq_true rfl) (Nat.le_of_ble_eq_true rfl) ?_
      exact t_Till_tryOffer_80 hlt hX hcx C N θ β τ post xp y0 r12 ω u11.1 u11.2 _ _ _ hP hD hS (lv_sub hl [2, 0] rfl) h
  · subst e9
    try simp only [show (nI 4).toNatClampNeg = 4 from rfl] at h
    replace hl : lv_has ls 5 [(0, .ref (gX 0)), (2, .ref ((go 4) 0))] := hl
    refine W.eq (g2 := F0 m 56 ls [.int y0]) rfl ?_
    refine lv_istore_n (lv' := [(3, .int y0), (0, .ref (gX 0)), (2, .ref ((go 4) 0))]) hx hb d_Till_tryOffer_56 rfl hl (by decide) rfl (fun ls hl => ?_)
    refine lv_iload_n hx hb d_Till_tryOffer_57 rfl (lv_at hl 0 rfl) ?_
    refine lv_if_eq (tgt := 79) hx hb d_Till_tryOffer_58 (by decide) (fun c10 => ?_) (fun c10 => ?_)
    · replace h := h.1 c10
      refine lv_iconst (v := 0) hx hb d_Till_tryOffer_79 (by decide) ?_
      refine W.widen (k := 1) (n := 6) (Nat.le_of_ble_eq_true rfl) (Nat.le_of_ble_eq_true rfl) ?_
      exact t_Till_tryOffer_80 hlt hX hcx C N θ β τ post xp y0 0 ω κ υ _ _ _ hP hD hS (lv_sub hl [2, 0] rfl) h
    · replace h := h.2 c10
      refine lv_aload_n hx hb d_Till_tryOffer_61 rfl (lv_at hl 1 rfl) ?_
      refine va_get (D := D) (ci := 7) (v := .ref (gL 0)) (C := R_Till) (T := F_Till) (N := 9) hx hb hts in_Till hown hK hP 0 rfl rfl 4 (by decide) (hts _ kw_240) (fun _ h9 => h9) rfl d_Till_tryOffer_62 ?_
      refine lv_aload_n hx hb d_Till_tryOffer_65 rfl (lv_at hl 1 rfl) ?_
      refine va_get (D := D) (ci := 7) (v := .ref (gT 0)) (C := R_Till) (T := F_Till) (N := 9) hx hb hts in_Till hown hK hP 0 rfl rfl 0 (by decide) (hts _ kw_236) (fun _ h9 => h9) rfl d_Till_tryOffer_66 ?_
      refine lv_aload_n hx hb d_Till_tryOffer_69 rfl (lv_at hl 1 rfl) ?_
      refine va_get (D := D) (ci := 7) (v := .ref (gB 0)) (C := R_Till) (T := F_Till) (N := 9) hx hb hts in_Till hown hK hP 0 rfl rfl 2 (by decide) (hts _ kw_238) (fun _ h9 => h9) rfl d_Till_tryOffer_70 ?_
      refine call_i (wr := [(gX 0, .inr (7, [.ref (gT 0), .ref (gX 1), .ref (gB 0), .ref x_keptUnits, .ref (gL 0), .ref x_plan, .ref x_receipts, .int (θ 7 0), .int (θ 8 0)])), (gX 1, .inl (k 0, 12, .inl (θ 1)))]) (wn := (fun u11 : (St) × (St) => wTill k gX θ (gT 0) (gB 0) x_keptUnits (gL 0) x_plan x_receipts ++ (wBasket k gB β ++ (wTariff k gT τ (fun i => some (go i 0)) ++ (wOffer k (go 0) (ω 0) ++ (wOffer k (go 1) (ω 1) ++ (wOffer k (go 2) (ω 2) ++ (wOffer k (go 3) (ω 3) ++ (wOffer k (go 4) (ω 4) ++ (wOffer k (go 5) (ω 5) ++ (wPlanner k gL u11.1 (gU 0) ++ (wUses k gU u11.2)))))))))))) C hP hD hS [19, 20, 21, 22, 23, 24, 25, 26, 27, 28, 29, 30, 31, 32, 4, 5, 6, 7, 8, 9, 10, 11, 12, 13, 14, 15, 16, 17, 18, 2, 3] [0, 1] [0, 1, 31, 32, 16, 17, 18, 19, 20, 21, 22, 23, 24, 25, 26, 27, 28, 29, 30, 2, 3, 4, 5, 6, 7, 8, 9, 10, 11, 12, 13, 14, 15] rfl rfl (by decide) (by decide) (fun _ => rfl) (by decide) (runV (As := [.ref (gT 0), .ref (gB 0)]) (rest := []) C (hP.sub [19, 20, 21, 22, 23, 24, 25, 26, 27, 28, 29, 30, 31, 32, 4, 5, 6, 7, 8, 9, 10, 11, 12, 13, 14, 15, 16, 17, 18, 2, 3] rfl) (hD.sub [19, 20, 21, 22, 23, 24, 25, 26, 27, 28, 29, 30, 31, 32, 4, 5, 6, 7, 8, 9, 10, 11, 12, 13, 14, 15, 16, 17, 18, 2, 3] (by decide) rfl) (m_Planner_leastTotal N gL gU gT go gB κ υ τ ω β   _ h H.size) kw_676 kw_677 kw_678 kw_6 kw_679 hd_Planner_leastTotal ⟨Nat.le_of_ble_eq_true rfl, Nat.le_of_ble_eq_true rfl⟩ ⟨Nat.le_of_ble_eq_true rfl, Nat.le_of_ble_eq_true rfl⟩ 0 rfl rfl rfl rfl hl.1 (Nat.le_of_ble_eq_true rfl) d_Till_tryOffer_73) (fun r12 u11 H locs h hP hD hS => ?_)
      try dsimp only at h
      refine lv_goto (tgt := 80) hx hb d_Till_tryOffer_76 (by decide) ?_
      refine W.widen (k := 1) (n := 6) (Nat.le_of_ble_eq_true rfl) (Nat.le_of_ble_eq_true rfl) ?_
      exact t_Till_tryOffer_80 hlt hX hcx C N θ β τ post xp y0 r12 ω u11.1 u11.2 _ _ _ hP hD hS (lv_sub hl [2, 0] rfl) h
  · subst e9
    try simp only [show (nI 5).toNatClampNeg = 5 from rfl] at h
    replace hl : lv_has ls 5 [(0, .ref (gX 0)), (2, .ref ((go 5) 0))] := hl
    refine W.eq (g2 := F0 m 56 ls [.int y0]) rfl ?_
    refine lv_istore_n (lv' := [(3, .int y0), (0, .ref (gX 0)), (2, .ref ((go 5) 0))]) hx hb d_Till_tryOffer_56 rfl hl (by decide) rfl (fun ls hl => ?_)
    refine lv_iload_n hx hb d_Till_tryOffer_57 rfl (lv_at hl 0 rfl) ?_
    refine lv_if_eq (tgt := 79) hx hb d_Till_tryOffer_58 (by decide) (fun c10 => ?_) (fun c10 => ?_)
    · replace h := h.1 c10
      refine lv_iconst (v := 0) hx hb d_Till_tryOffer_79 (by decide) ?_
      refine W.widen (k := 1) (n := 6) (Nat.le_of_ble_eq_true rfl) (Nat.le_of_ble_eq_true rfl) ?_
      exact t_Till_tryOffer_80 hlt hX hcx C N θ β τ post xp y0 0 ω κ υ _ _ _ hP hD hS (lv_sub hl [2, 0] rfl) h
    · replace h := h.2 c10
      refine lv_aload_n hx hb d_Till_tryOffer_61 rfl (lv_at hl 1 rfl) ?_
      refine va_get (D := D) (ci := 7) (v := .ref (gL 0)) (C := R_Till) (T := F_Till) (N := 9) hx hb hts in_Till hown hK hP 0 rfl rfl 4 (by decide) (hts _ kw_240) (fun _ h9 => h9) rfl d_Till_tryOffer_62 ?_
      refine lv_aload_n hx hb d_Till_tryOffer_65 rfl (lv_at hl 1 rfl) ?_
      refine va_get (D := D) (ci := 7) (v := .ref (gT 0)) (C := R_Till) (T := F_Till) (N := 9) hx hb hts in_Till hown hK hP 0 rfl rfl 0 (by decide) (hts _ kw_236) (fun _ h9 => h9) rfl d_Till_tryOffer_66 ?_
      refine lv_aload_n hx hb d_Till_tryOffer_69 rfl (lv_at hl 1 rfl) ?_
      refine va_get (D := D) (ci := 7) (v := .ref (gB 0)) (C := R_Till) (T := F_Till) (N := 9) hx hb hts in_Till hown hK hP 0 rfl rfl 2 (by decide) (hts _ kw_238) (fun _ h9 => h9) rfl d_Till_tryOffer_70 ?_
      refine call_i (wr := [(gX 0, .inr (7, [.ref (gT 0), .ref (gX 1), .ref (gB 0), .ref x_keptUnits, .ref (gL 0), .ref x_plan, .ref x_receipts, .int (θ 7 0), .int (θ 8 0)])), (gX 1, .inl (k 0, 12, .inl (θ 1)))]) (wn := (fun u11 : (St) × (St) => wTill k gX θ (gT 0) (gB 0) x_keptUnits (gL 0) x_plan x_receipts ++ (wBasket k gB β ++ (wTariff k gT τ (fun i => some (go i 0)) ++ (wOffer k (go 0) (ω 0) ++ (wOffer k (go 1) (ω 1) ++ (wOffer k (go 2) (ω 2) ++ (wOffer k (go 3) (ω 3) ++ (wOffer k (go 4) (ω 4) ++ (wOffer k (go 5) (ω 5) ++ (wPlanner k gL u11.1 (gU 0) ++ (wUses k gU u11.2)))))))))))) C hP hD hS [19, 20, 21, 22, 23, 24, 25, 26, 27, 28, 29, 30, 31, 32, 4, 5, 6, 7, 8, 9, 10, 11, 12, 13, 14, 15, 16, 17, 18, 2, 3] [0, 1] [0, 1, 31, 32, 16, 17, 18, 19, 20, 21, 22, 23, 24, 25, 26, 27, 28, 29, 30, 2, 3, 4, 5, 6, 7, 8, 9, 10, 11, 12, 13, 14, 15] rfl rfl (by decide) (by decide) (fun _ => rfl) (by decide) (runV (As := [.ref (gT 0), .ref (gB 0)]) (rest := []) C (hP.sub [19, 20, 21, 22, 23, 24, 25, 26, 27, 28, 29, 30, 31, 32, 4, 5, 6, 7, 8, 9, 10, 11, 12, 13, 14, 15, 16, 17, 18, 2, 3] rfl) (hD.sub [19, 20, 21, 22, 23, 24, 25, 26, 27, 28, 29, 30, 31, 32, 4, 5, 6, 7, 8, 9, 10, 11, 12, 13, 14, 15, 16, 17, 18, 2, 3] (by decide) rfl) (m_Planner_leastTotal N gL gU gT go gB κ υ τ ω β   _ h H.size) kw_676 kw_677 kw_678 kw_6 kw_679 hd_Planner_leastTotal ⟨Nat.le_of_ble_eq_true rfl, Nat.le_of_ble_eq_true rfl⟩ ⟨Nat.le_of_ble_eq_true rfl, Nat.le_of_ble_eq_true rfl⟩ 0 rfl rfl rfl rfl hl.1 (Nat.le_of_ble_eq_true rfl) d_Till_tryOffer_73) (fun r12 u11 H locs h hP hD hS => ?_)
      try dsimp only at h
      refine lv_goto (tgt := 80) hx hb d_Till_tryOffer_76 (by decide) ?_
      refine W.widen (k := 1) (n := 6) (Nat.le_of_ble_eq_true rfl) (Nat.le_of_ble_eq_true rfl) ?_
      exact t_Till_tryOffer_80 hlt hX hcx C N θ β τ post xp y0 r12 ω u11.1 u11.2 _ _ _ hP hD hS (lv_sub hl [2, 0] rfl) h
set_option maxHeartbeats 4000000 in
set_option maxRecDepth 100000 in
theorem t_Till_tryOffer_27 {p : Program} {l : Launch} {e : Env} {s : State} {m : MethodId} {args : Array Value} {below : List Frame} {meth : Method} {c : Code} {A : Nat → Prop} {D : va_G} {k : Nat → ClassId} {gX : Nat → Nat} {gB : Nat → Nat} {gT : Nat → Nat} {go : Nat → Nat → Nat} {gL : Nat → Nat} {gU : Nat → Nat} {x_keptUnits : Nat} {x_plan : Nat} {x_receipts : Nat} (hlt : l.stackTraces = false) (hX : Xf D A s s.heap) (hcx : c.exceptionTable.isEmpty = true) {x1 : Int32} (C : Cx p s m args meth c D k "PromotionTill" b_Till_tryOffer 5 (some .int) A) (N : Nat) (θ : St) (β : St) (τ : St) (post : Int32 → ((Nat → St) × (St) × (St)) → Prop) (xp : String → ((Nat → St) × (St) × (St)) → Prop) :
    ∀ (y0 : Int32) (ω : (Nat → St)) (κ : (St)) (υ : (St)) (H : Heap) (locs : List Loc) (ls : Array Slot), va_P D CL (wTill k gX θ (gT 0) (gB 0) x_keptUnits (gL 0) x_plan x_receipts ++ (wBasket k gB β ++ (wTariff k gT τ (fun i => some (go i 0)) ++ (wOffer k (go 0) (ω 0) ++ (wOffer k (go 1) (ω 1) ++ (wOffer k (go 2) (ω 2) ++ (wOffer k (go 3) (ω 3) ++ (wOffer k (go 4) (ω 4) ++ (wOffer k (go 5) (ω 5) ++ (wPlanner k gL κ (gU 0) ++ (wUses k gU υ))))))))))) H → va_D A (wTill k gX θ (gT 0) (gB 0) x_keptUnits (gL 0) x_plan x_receipts ++ (wBasket k gB β ++ (wTariff k gT τ (fun i => some (go i 0)) ++ (wOffer k (go 0) (ω 0) ++ (wOffer k (go 1) (ω 1) ++ (wOffer k (go 2) (ω 2) ++ (wOffer k (go 3) (ω 3) ++ (wOffer k (go 4) (ω 4) ++ (wOffer k (go 5) (ω 5) ++ (wPlanner k gL κ (gU 0) ++ (wUses k gU υ))))))))))) → va_S A s.heap H locs → lv_has ls 5 [(0, .ref (gX 0)), (2, .ref ((go (Int32.toNatClampNeg x1)) 0))] → wp_Till_tryOffer_27 N θ β τ x1 post xp y0 ω κ υ → W p l e rm_Till_tryOffer s m args below meth c H locs 1 6 (XQ below D A (fun u : (Nat → St) × (St) × (St) => wTill k gX θ (gT 0) (gB 0) x_keptUnits (gL 0) x_plan x_receipts ++ (wBasket k gB β ++ (wTariff k gT τ (fun i => some (go i 0)) ++ (wOffer k (go 0) (u.1 0) ++ (wOffer k (go 1) (u.1 1) ++ (wOffer k (go 2) (u.1 2) ++ (wOffer k (go 3) (u.1 3) ++ (wOffer k (go 4) (u.1 4) ++ (wOffer k (go 5) (u.1 5) ++ (wPlanner k gL u.2.1 (gU 0) ++ (wUses k gU u.2.2))))))))))) (fun v (u : (Nat → St) × (St) × (St)) => ∃ r : Int32, v = some (.int r) ∧ post r u) xp s rm_Till_tryOffer.cells rm_Till_tryOffer.slots) (F0 m 27 ls [.int y0, .ref ((go (Int32.toNatClampNeg x1)) 0)]) := by
  obtain ⟨hx, hb, hr, hlk, hml, hown, hts, hK, hA⟩ := id C
  obtain ⟨t9, hZ9, hT9, hE9⟩ := id hX.2
  intro y0 ω κ υ H locs ls hP hD hS hl h
  unfold wp_Till_tryOffer_27 at h
  obtain ⟨hi9, h⟩ := h
  obtain ⟨i9, hj9, e9⟩ := vp_in_of hi9 (by decide)
  rcases (show i9 = 0 ∨ i9 = 1 ∨ i9 = 2 ∨ i9 = 3 ∨ i9 = 4 ∨ i9 = 5 by omega) with rfl | rfl | rfl | rfl | rfl | rfl
  · subst e9
    try simp only [show (nI 0).toNatClampNeg = 0 from rfl] at h
    replace hl : lv_has ls 5 [(0, .ref (gX 0)), (2, .ref ((go 0) 0))] := hl
    refine W.eq (g2 := F0 m 27 ls [.int y0, .ref ((go 0) 0)]) rfl ?_
    obtain ⟨hz5, h⟩ := h
    refine va_put (D := D) (ci := 1) (v := .int y0) (ty := .boolean) (C := R_Offer) (T := F_Offer) (N := 6) hx hb hts in_Offer t_Offer tt_Offer n_Offer hown hK hP hD hS 7 rfl rfl 4 (by decide) (hts _ kw_64) (fun _ h9 => h9) rfl (by decide +kernel) hz5.1 hz5.2 (Nat.le_of_ble_eq_true rfl) d_Till_tryOffer_27 (fun H locs hP hD hS => ?_)
    obtain ⟨ω6, eω6⟩ : ∃ z, z = va_up ω 0 (s2 (ω 0) 4 0 y0) := ⟨_, rfl⟩
    replace hP : va_P D CL (wTill k gX θ (gT 0) (gB 0) x_keptUnits (gL 0) x_plan x_receipts ++ (wBasket k gB β ++ (wTariff k gT τ (fun i => some (go i 0)) ++ (wOffer k (go 0) (ω6 0) ++ (wOffer k (go 1) (ω6 1) ++ (wOffer k (go 2) (ω6 2) ++ (wOffer k (go 3) (ω6 3) ++ (wOffer k (go 4) (ω6 4) ++ (wOffer k (go 5) (ω6 5) ++ (wPlanner k gL κ (gU 0) ++ (wUses k gU υ))))))))))) H := by rw [eω6]; exact hP
    replace hD : va_D A (wTill k gX θ (gT 0) (gB 0) x_keptUnits (gL 0) x_plan x_receipts ++ (wBasket k gB β ++ (wTariff k gT τ (fun i => some (go i 0)) ++ (wOffer k (go 0) (ω6 0) ++ (wOffer k (go 1) (ω6 1) ++ (wOffer k (go 2) (ω6 2) ++ (wOffer k (go 3) (ω6 3) ++ (wOffer k (go 4) (ω6 4) ++ (wOffer k (go 5) (ω6 5) ++ (wPlanner k gL κ (gU 0) ++ (wUses k gU υ))))))))))) := by rw [eω6]; exact hD
    replace h := h ω6 eω6
    refine lv_aload_n hx hb d_Till_tryOffer_30 rfl (lv_at hl 0 rfl) ?_
    refine va_get (D := D) (ci := 7) (v := .ref (gL 0)) (C := R_Till) (T := F_Till) (N := 9) hx hb hts in_Till hown hK hP 0 rfl rfl 4 (by decide) (hts _ kw_240) (fun _ h9 => h9) rfl d_Till_tryOffer_31 ?_
    refine lv_aload_n hx hb d_Till_tryOffer_34 rfl (lv_at hl 0 rfl) ?_
    refine va_get (D := D) (ci := 7) (v := .ref (gT 0)) (C := R_Till) (T := F_Till) (N := 9) hx hb hts in_Till hown hK hP 0 rfl rfl 0 (by decide) (hts _ kw_236) (fun _ h9 => h9) rfl d_Till_tryOffer_35 ?_
    refine lv_aload_n hx hb d_Till_tryOffer_38 rfl (lv_at hl 0 rfl) ?_
    refine va_get (D := D) (ci := 7) (v := .ref (gB 0)) (C := R_Till) (T := F_Till) (N := 9) hx hb hts in_Till hown hK hP 0 rfl rfl 2 (by decide) (hts _ kw_238) (fun _ h9 => h9) rfl d_Till_tryOffer_39 ?_
    refine call_i (wr := [(gX 0, .inr (7, [.ref (gT 0), .ref (gX 1), .ref (gB 0), .ref x_keptUnits, .ref (gL 0), .ref x_plan, .ref x_receipts, .int (θ 7 0), .int (θ 8 0)])), (gX 1, .inl (k 0, 12, .inl (θ 1)))]) (wn := (fun u7 : (St) => wTill k gX θ (gT 0) (gB 0) x_keptUnits (gL 0) x_plan x_receipts ++ (wBasket k gB β ++ (wTariff k gT τ (fun i => some (go i 0)) ++ (wOffer k (go 0) (ω6 0) ++ (wOffer k (go 1) (ω6 1) ++ (wOffer k (go 2) (ω6 2) ++ (wOffer k (go 3) (ω6 3) ++ (wOffer k (go 4) (ω6 4) ++ (wOffer k (go 5) (ω6 5) ++ (wPlanner k gL u7 (gU 0) ++ (wUses k gU υ)))))))))))) C hP hD hS [19, 20, 21, 22, 23, 24, 25, 26, 27, 28, 29, 30, 31, 32, 4, 5, 6, 7, 8, 9, 10, 11, 12, 13, 14, 15, 16, 17, 18, 2, 3] [0, 1] [0, 1, 31, 32, 16, 17, 18, 19, 20, 21, 22, 23, 24, 25, 26, 27, 28, 29, 30, 2, 3, 4, 5, 6, 7, 8, 9, 10, 11, 12, 13, 14, 15] rfl rfl (by decide) (by decide) (fun _ => rfl) (by decide) (runV (As := [.ref (gT 0), .ref (gB 0)]) (rest := []) C (hP.sub [19, 20, 21, 22, 23, 24, 25, 26, 27, 28, 29, 30, 31, 32, 4, 5, 6, 7, 8, 9, 10, 11, 12, 13, 14, 15, 16, 17, 18, 2, 3] rfl) (hD.sub [19, 20, 21, 22, 23, 24, 25, 26, 27, 28, 29, 30, 31, 32, 4, 5, 6, 7, 8, 9, 10, 11, 12, 13, 14, 15, 16, 17, 18, 2, 3] (by decide) rfl) (m_Planner_roomFor N gL gU gT go gB κ υ τ ω6 β   _ h H.size) kw_431 kw_432 kw_433 kw_6 kw_434 hd_Planner_roomFor ⟨Nat.le_of_ble_eq_true rfl, Nat.le_of_ble_eq_true rfl⟩ ⟨Nat.le_of_ble_eq_true rfl, Nat.le_of_ble_eq_true rfl⟩ 0 rfl rfl rfl rfl hl.1 (Nat.le_of_ble_eq_true rfl) d_Till_tryOffer_42) (fun r8 u7 H locs h hP hD hS => ?_)
    try dsimp only at h
    refine lv_sipush (v := 3000) hx hb d_Till_tryOffer_45 (by decide) ?_
    refine lv_icmp_gt (tgt := 55) hx hb d_Till_tryOffer_48 (by decide) (fun c9 => ?_) (fun c9 => ?_)
    · replace h := h.1 c9
      refine lv_iconst (v := 0) hx hb d_Till_tryOffer_55 (by decide) ?_
      refine W.widen (k := 1) (n := 6) (Nat.le_of_ble_eq_true rfl) (Nat.le_of_ble_eq_true rfl) ?_
      exact t_Till_tryOffer_56 hlt hX hcx C N θ β τ post xp 0 ω6 u7 υ _ _ _ hP hD hS (lv_sub hl [0, 1] rfl) h
    · replace h := h.2 c9
      refine lv_iconst (v := 1) hx hb d_Till_tryOffer_51 (by decide) ?_
      refine lv_goto (tgt := 56) hx hb d_Till_tryOffer_52 (by decide) ?_
      refine W.widen (k := 1) (n := 6) (Nat.le_of_ble_eq_true rfl) (Nat.le_of_ble_eq_true rfl) ?_
      exact t_Till_tryOffer_56 hlt hX hcx C N θ β τ post xp 1 ω6 u7 υ _ _ _ hP hD hS (lv_sub hl [0, 1] rfl) h
  · subst e9
    try simp only [show (nI 1).toNatClampNeg = 1 from rfl] at h
    replace hl : lv_has ls 5 [(0, .ref (gX 0)), (2, .ref ((go 1) 0))] := hl
    refine W.eq (g2 := F0 m 27 ls [.int y0, .ref ((go 1) 0)]) rfl ?_
    obtain ⟨hz5, h⟩ := h
    refine va_put (D := D) (ci := 1) (v := .int y0) (ty := .boolean) (C := R_Offer) (T := F_Offer) (N := 6) hx hb hts in_Offer t_Offer tt_Offer n_Offer hown hK hP hD hS 9 rfl rfl 4 (by decide) (hts _ kw_64) (fun _ h9 => h9) rfl (by decide +kernel) hz5.1 hz5.2 (Nat.le_of_ble_eq_true rfl) d_Till_tryOffer_27 (fun H locs hP hD hS => ?_)
    obtain ⟨ω6, eω6⟩ : ∃ z, z = va_up ω 1 (s2 (ω 1) 4 0 y0) := ⟨_, rfl⟩
    replace hP : va_P D CL (wTill k gX θ (gT 0) (gB 0) x_keptUnits (gL 0) x_plan x_receipts ++ (wBasket k gB β ++ (wTariff k gT τ (fun i => some (go i 0)) ++ (wOffer k (go 0) (ω6 0) ++ (wOffer k (go 1) (ω6 1) ++ (wOffer k (go 2) (ω6 2) ++ (wOffer k (go 3) (ω6 3) ++ (wOffer k (go 4) (ω6 4) ++ (wOffer k (go 5) (ω6 5) ++ (wPlanner k gL κ (gU 0) ++ (wUses k gU υ))))))))))) H := by rw [eω6]; exact hP
    replace hD : va_D A (wTill k gX θ (gT 0) (gB 0) x_keptUnits (gL 0) x_plan x_receipts ++ (wBasket k gB β ++ (wTariff k gT τ (fun i => some (go i 0)) ++ (wOffer k (go 0) (ω6 0) ++ (wOffer k (go 1) (ω6 1) ++ (wOffer k (go 2) (ω6 2) ++ (wOffer k (go 3) (ω6 3) ++ (wOffer k (go 4) (ω6 4) ++ (wOffer k (go 5) (ω6 5) ++ (wPlanner k gL κ (gU 0) ++ (wUses k gU υ))))))))))) := by rw [eω6]; exact hD
    replace h := h ω6 eω6
    refine lv_aload_n hx hb d_Till_tryOffer_30 rfl (lv_at hl 0 rfl) ?_
    refine va_get (D := D) (ci := 7) (v := .ref (gL 0)) (C := R_Till) (T := F_Till) (N := 9) hx hb hts in_Till hown hK hP 0 rfl rfl 4 (by decide) (hts _ kw_240) (fun _ h9 => h9) rfl d_Till_tryOffer_31 ?_
    refine lv_aload_n hx hb d_Till_tryOffer_34 rfl (lv_at hl 0 rfl) ?_
    refine va_get (D := D) (ci := 7) (v := .ref (gT 0)) (C := R_Till) (T := F_Till) (N := 9) hx hb hts in_Till hown hK hP 0 rfl rfl 0 (by decide) (hts _ kw_236) (fun _ h9 => h9) rfl d_Till_tryOffer_35 ?_
    refine lv_aload_n hx hb d_Till_tryOffer_38 rfl (lv_at hl 0 rfl) ?_
    refine va_get (D := D) (ci := 7) (v := .ref (gB 0)) (C := R_Till) (T := F_Till) (N := 9) hx hb hts in_Till hown hK hP 0 rfl rfl 2 (by decide) (hts _ kw_238) (fun _ h9 => h9) rfl d_Till_tryOffer_39 ?_
    refine call_i (wr := [(gX 0, .inr (7, [.ref (gT 0), .ref (gX 1), .ref (gB 0), .ref x_keptUnits, .ref (gL 0), .ref x_plan, .ref x_receipts, .int (θ 7 0), .int (θ 8 0)])), (gX 1, .inl (k 0, 12, .inl (θ 1)))]) (wn := (fun u7 : (St) => wTill k gX θ (gT 0) (gB 0) x_keptUnits (gL 0) x_plan x_receipts ++ (wBasket k gB β ++ (wTariff k gT τ (fun i => some (go i 0)) ++ (wOffer k (go 0) (ω6 0) ++ (wOffer k (go 1) (ω6 1) ++ (wOffer k (go 2) (ω6 2) ++ (wOffer k (go 3) (ω6 3) ++ (wOffer k (go 4) (ω6 4) ++ (wOffer k (go 5) (ω6 5) ++ (wPlanner k gL u7 (gU 0) ++ (wUses k gU υ)))))))))))) C hP hD hS [19, 20, 21, 22, 23, 24, 25, 26, 27, 28, 29, 30, 31, 32, 4, 5, 6, 7, 8, 9, 10, 11, 12, 13, 14, 15, 16, 17, 18, 2, 3] [0, 1] [0, 1, 31, 32, 16, 17, 18, 19, 20, 21, 22, 23, 24, 25, 26, 27, 28, 29, 30, 2, 3, 4, 5, 6, 7, 8, 9, 10, 11, 12, 13, 14, 15] rfl rfl (by decide) (by decide) (fun _ => rfl) (by decide) (runV (As := [.ref (gT 0), .ref (gB 0)]) (rest := []) C (hP.sub [19, 20, 21, 22, 23, 24, 25, 26, 27, 28, 29, 30, 31, 32, 4, 5, 6, 7, 8, 9, 10, 11, 12, 13, 14, 15, 16, 17, 18, 2, 3] rfl) (hD.sub [19, 20, 21, 22, 23, 24, 25, 26, 27, 28, 29, 30, 31, 32, 4, 5, 6, 7, 8, 9, 10, 11, 12, 13, 14, 15, 16, 17, 18, 2, 3] (by decide) rfl) (m_Planner_roomFor N gL gU gT go gB κ υ τ ω6 β   _ h H.size) kw_431 kw_432 kw_433 kw_6 kw_434 hd_Planner_roomFor ⟨Nat.le_of_ble_eq_true rfl, Nat.le_of_ble_eq_true rfl⟩ ⟨Nat.le_of_ble_eq_true rfl, Nat.le_of_ble_eq_true rfl⟩ 0 rfl rfl rfl rfl hl.1 (Nat.le_of_ble_eq_true rfl) d_Till_tryOffer_42) (fun r8 u7 H locs h hP hD hS => ?_)
    try dsimp only at h
    refine lv_sipush (v := 3000) hx hb d_Till_tryOffer_45 (by decide) ?_
    refine lv_icmp_gt (tgt := 55) hx hb d_Till_tryOffer_48 (by decide) (fun c9 => ?_) (fun c9 => ?_)
    · replace h := h.1 c9
      refine lv_iconst (v := 0) hx hb d_Till_tryOffer_55 (by decide) ?_
      refine W.widen (k := 1) (n := 6) (Nat.le_of_ble_eq_true rfl) (Nat.le_of_ble_eq_true rfl) ?_
      exact t_Till_tryOffer_56 hlt hX hcx C N θ β τ post xp 0 ω6 u7 υ _ _ _ hP hD hS (lv_sub hl [0, 1] rfl) h
    · replace h := h.2 c9
      refine lv_iconst (v := 1) hx hb d_Till_tryOffer_51 (by decide) ?_
      refine lv_goto (tgt := 56) hx hb d_Till_tryOffer_52 (by decide) ?_
      refine W.widen (k := 1) (n := 6) (Nat.le_of_ble_eq_true rfl) (Nat.le_of_ble_eq_true rfl) ?_
      exact t_Till_tryOffer_56 hlt hX hcx C N θ β τ post xp 1 ω6 u7 υ _ _ _ hP hD hS (lv_sub hl [0, 1] rfl) h
  · subst e9
    try simp only [show (nI 2).toNatClampNeg = 2 from rfl] at h
    replace hl : lv_has ls 5 [(0, .ref (gX 0)), (2, .ref ((go 2) 0))] := hl
    refine W.eq (g2 := F0 m 27 ls [.int y0, .ref ((go 2) 0)]) rfl ?_
    obtain ⟨hz5, h⟩ := h
    refine va_put (D := D) (ci := 1) (v := .int y0) (ty := .boolean) (C := R_Offer) (T := F_Offer) (N := 6) hx hb hts in_Offer t_Offer tt_Offer n_Offer hown hK hP hD hS 11 rfl rfl 4 (by decide) (hts _ kw_64) (fun _ h9 => h9) rfl (by decide +kernel) hz5.1 hz5.2 (Nat.le_of_ble_eq_true rfl) d_Till_tryOffer_27 (fun H locs hP hD hS => ?_)
    obtain ⟨ω6, eω6⟩ : ∃ z, z = va_up ω 2 (s2 (ω 2) 4 0 y0) := ⟨_, rfl⟩
    replace hP : va_P D CL (wTill k gX θ (gT 0) (gB 0) x_keptUnits (gL 0) x_plan x_receipts ++ (wBasket k gB β ++ (wTariff k gT τ (fun i => some (go i 0)) ++ (wOffer k (go 0) (ω6 0) ++ (wOffer k (go 1) (ω6 1) ++ (wOffer k (go 2) (ω6 2) ++ (wOffer k (go 3) (ω6 3) ++ (wOffer k (go 4) (ω6 4) ++ (wOffer k (go 5) (ω6 5) ++ (wPlanner k gL κ (gU 0) ++ (wUses k gU υ))))))))))) H := by rw [eω6]; exact hP
    replace hD : va_D A (wTill k gX θ (gT 0) (gB 0) x_keptUnits (gL 0) x_plan x_receipts ++ (wBasket k gB β ++ (wTariff k gT τ (fun i => some (go i 0)) ++ (wOffer k (go 0) (ω6 0) ++ (wOffer k (go 1) (ω6 1) ++ (wOffer k (go 2) (ω6 2) ++ (wOffer k (go 3) (ω6 3) ++ (wOffer k (go 4) (ω6 4) ++ (wOffer k (go 5) (ω6 5) ++ (wPlanner k gL κ (gU 0) ++ (wUses k gU υ))))))))))) := by rw [eω6]; exact hD
    replace h := h ω6 eω6
    refine lv_aload_n hx hb d_Till_tryOffer_30 rfl (lv_at hl 0 rfl) ?_
    refine va_get (D := D) (ci := 7) (v := .ref (gL 0)) (C := R_Till) (T := F_Till) (N := 9) hx hb hts in_Till hown hK hP 0 rfl rfl 4 (by decide) (hts _ kw_240) (fun _ h9 => h9) rfl d_Till_tryOffer_31 ?_
    refine lv_aload_n hx hb d_Till_tryOffer_34 rfl (lv_at hl 0 rfl) ?_
    refine va_get (D := D) (ci := 7) (v := .ref (gT 0)) (C := R_Till) (T := F_Till) (N := 9) hx hb hts in_Till hown hK hP 0 rfl rfl 0 (by decide) (hts _ kw_236) (fun _ h9 => h9) rfl d_Till_tryOffer_35 ?_
    refine lv_aload_n hx hb d_Till_tryOffer_38 rfl (lv_at hl 0 rfl) ?_
    refine va_get (D := D) (ci := 7) (v := .ref (gB 0)) (C := R_Till) (T := F_Till) (N := 9) hx hb hts in_Till hown hK hP 0 rfl rfl 2 (by decide) (hts _ kw_238) (fun _ h9 => h9) rfl d_Till_tryOffer_39 ?_
    refine call_i (wr := [(gX 0, .inr (7, [.ref (gT 0), .ref (gX 1), .ref (gB 0), .ref x_keptUnits, .ref (gL 0), .ref x_plan, .ref x_receipts, .int (θ 7 0), .int (θ 8 0)])), (gX 1, .inl (k 0, 12, .inl (θ 1)))]) (wn := (fun u7 : (St) => wTill k gX θ (gT 0) (gB 0) x_keptUnits (gL 0) x_plan x_receipts ++ (wBasket k gB β ++ (wTariff k gT τ (fun i => some (go i 0)) ++ (wOffer k (go 0) (ω6 0) ++ (wOffer k (go 1) (ω6 1) ++ (wOffer k (go 2) (ω6 2) ++ (wOffer k (go 3) (ω6 3) ++ (wOffer k (go 4) (ω6 4) ++ (wOffer k (go 5) (ω6 5) ++ (wPlanner k gL u7 (gU 0) ++ (wUses k gU υ)))))))))))) C hP hD hS [19, 20, 21, 22, 23, 24, 25, 26, 27, 28, 29, 30, 31, 32, 4, 5, 6, 7, 8, 9, 10, 11, 12, 13, 14, 15, 16, 17, 18, 2, 3] [0, 1] [0, 1, 31, 32, 16, 17, 18, 19, 20, 21, 22, 23, 24, 25, 26, 27, 28, 29, 30, 2, 3, 4, 5, 6, 7, 8, 9, 10, 11, 12, 13, 14, 15] rfl rfl (by decide) (by decide) (fun _ => rfl) (by decide) (runV (As := [.ref (gT 0), .ref (gB 0)]) (rest := []) C (hP.sub [19, 20, 21, 22, 23, 24, 25, 26, 27, 28, 29, 30, 31, 32, 4, 5, 6, 7, 8, 9, 10, 11, 12, 13, 14, 15, 16, 17, 18, 2, 3] rfl) (hD.sub [19, 20, 21, 22, 23, 24, 25, 26, 27, 28, 29, 30, 31, 32, 4, 5, 6, 7, 8, 9, 10, 11, 12, 13, 14, 15, 16, 17, 18, 2, 3] (by decide) rfl) (m_Planner_roomFor N gL gU gT go gB κ υ τ ω6 β   _ h H.size) kw_431 kw_432 kw_433 kw_6 kw_434 hd_Planner_roomFor ⟨Nat.le_of_ble_eq_true rfl, Nat.le_of_ble_eq_true rfl⟩ ⟨Nat.le_of_ble_eq_true rfl, Nat.le_of_ble_eq_true rfl⟩ 0 rfl rfl rfl rfl hl.1 (Nat.le_of_ble_eq_true rfl) d_Till_tryOffer_42) (fun r8 u7 H locs h hP hD hS => ?_)
    try dsimp only at h
    refine lv_sipush (v := 3000) hx hb d_Till_tryOffer_45 (by decide) ?_
    refine lv_icmp_gt (tgt := 55) hx hb d_Till_tryOffer_48 (by decide) (fun c9 => ?_) (fun c9 => ?_)
    · replace h := h.1 c9
      refine lv_iconst (v := 0) hx hb d_Till_tryOffer_55 (by decide) ?_
      refine W.widen (k := 1) (n := 6) (Nat.le_of_ble_eq_true rfl) (Nat.le_of_ble_eq_true rfl) ?_
      exact t_Till_tryOffer_56 hlt hX hcx C N θ β τ post xp 0 ω6 u7 υ _ _ _ hP hD hS (lv_sub hl [0, 1] rfl) h
    · replace h := h.2 c9
      refine lv_iconst (v := 1) hx hb d_Till_tryOffer_51 (by decide) ?_
      refine lv_goto (tgt := 56) hx hb d_Till_tryOffer_52 (by decide) ?_
      refine W.widen (k := 1) (n := 6) (Nat.le_of_ble_eq_true rfl) (Nat.le_of_ble_eq_true rfl) ?_
      exact t_Till_tryOffer_56 hlt hX hcx C N θ β τ post xp 1 ω6 u7 υ _ _ _ hP hD hS (lv_sub hl [0, 1] rfl) h
  · subst e9
    try simp only [show (nI 3).toNatClampNeg = 3 from rfl] at h
    replace hl : lv_has ls 5 [(0, .ref (gX 0)), (2, .ref ((go 3) 0))] := hl
    refine W.eq (g2 := F0 m 27 ls [.int y0, .ref ((go 3) 0)]) rfl ?_
    obtain ⟨hz5, h⟩ := h
    refine va_put (D := D) (ci := 1) (v := .int y0) (ty := .boolean) (C := R_Offer) (T := F_Offer) (N := 6) hx hb hts in_Offer t_Offer tt_Offer n_Offer hown hK hP hD hS 13 rfl rfl 4 (by decide) (hts _ kw_64) (fun _ h9 => h9) rfl (by decide +kernel) hz5.1 hz5.2 (Nat.le_of_ble_eq_true rfl) d_Till_tryOffer_27 (fun H locs hP hD hS => ?_)
    obtain ⟨ω6, eω6⟩ : ∃ z, z = va_up ω 3 (s2 (ω 3) 4 0 y0) := ⟨_, rfl⟩
    replace hP : va_P D CL (wTill k gX θ (gT 0) (gB 0) x_keptUnits (gL 0) x_plan x_receipts ++ (wBasket k gB β ++ (wTariff k gT τ (fun i => some (go i 0)) ++ (wOffer k (go 0) (ω6 0) ++ (wOffer k (go 1) (ω6 1) ++ (wOffer k (go 2) (ω6 2) ++ (wOffer k (go 3) (ω6 3) ++ (wOffer k (go 4) (ω6 4) ++ (wOffer k (go 5) (ω6 5) ++ (wPlanner k gL κ (gU 0) ++ (wUses k gU υ))))))))))) H := by rw [eω6]; exact hP
    replace hD : va_D A (wTill k gX θ (gT 0) (gB 0) x_keptUnits (gL 0) x_plan x_receipts ++ (wBasket k gB β ++ (wTariff k gT τ (fun i => some (go i 0)) ++ (wOffer k (go 0) (ω6 0) ++ (wOffer k (go 1) (ω6 1) ++ (wOffer k (go 2) (ω6 2) ++ (wOffer k (go 3) (ω6 3) ++ (wOffer k (go 4) (ω6 4) ++ (wOffer k (go 5) (ω6 5) ++ (wPlanner k gL κ (gU 0) ++ (wUses k gU υ))))))))))) := by rw [eω6]; exact hD
    replace h := h ω6 eω6
    refine lv_aload_n hx hb d_Till_tryOffer_30 rfl (lv_at hl 0 rfl) ?_
    refine va_get (D := D) (ci := 7) (v := .ref (gL 0)) (C := R_Till) (T := F_Till) (N := 9) hx hb hts in_Till hown hK hP 0 rfl rfl 4 (by decide) (hts _ kw_240) (fun _ h9 => h9) rfl d_Till_tryOffer_31 ?_
    refine lv_aload_n hx hb d_Till_tryOffer_34 rfl (lv_at hl 0 rfl) ?_
    refine va_get (D := D) (ci := 7) (v := .ref (gT 0)) (C := R_Till) (T := F_Till) (N := 9) hx hb hts in_Till hown hK hP 0 rfl rfl 0 (by decide) (hts _ kw_236) (fun _ h9 => h9) rfl d_Till_tryOffer_35 ?_
    refine lv_aload_n hx hb d_Till_tryOffer_38 rfl (lv_at hl 0 rfl) ?_
    refine va_get (D := D) (ci := 7) (v := .ref (gB 0)) (C := R_Till) (T := F_Till) (N := 9) hx hb hts in_Till hown hK hP 0 rfl rfl 2 (by decide) (hts _ kw_238) (fun _ h9 => h9) rfl d_Till_tryOffer_39 ?_
    refine call_i (wr := [(gX 0, .inr (7, [.ref (gT 0), .ref (gX 1), .ref (gB 0), .ref x_keptUnits, .ref (gL 0), .ref x_plan, .ref x_receipts, .int (θ 7 0), .int (θ 8 0)])), (gX 1, .inl (k 0, 12, .inl (θ 1)))]) (wn := (fun u7 : (St) => wTill k gX θ (gT 0) (gB 0) x_keptUnits (gL 0) x_plan x_receipts ++ (wBasket k gB β ++ (wTariff k gT τ (fun i => some (go i 0)) ++ (wOffer k (go 0) (ω6 0) ++ (wOffer k (go 1) (ω6 1) ++ (wOffer k (go 2) (ω6 2) ++ (wOffer k (go 3) (ω6 3) ++ (wOffer k (go 4) (ω6 4) ++ (wOffer k (go 5) (ω6 5) ++ (wPlanner k gL u7 (gU 0) ++ (wUses k gU υ)))))))))))) C hP hD hS [19, 20, 21, 22, 23, 24, 25, 26, 27, 28, 29, 30, 31, 32, 4, 5, 6, 7, 8, 9, 10, 11, 12, 13, 14, 15, 16, 17, 18, 2, 3] [0, 1] [0, 1, 31, 32, 16, 17, 18, 19, 20, 21, 22, 23, 24, 25, 26, 27, 28, 29, 30, 2, 3, 4, 5, 6, 7, 8, 9, 10, 11, 12, 13, 14, 15] rfl rfl (by decide) (by decide) (fun _ => rfl) (by decide) (runV (As := [.ref (gT 0), .ref (gB 0)]) (rest := []) C (hP.sub [19, 20, 21, 22, 23, 24, 25, 26, 27, 28, 29, 30, 31, 32, 4, 5, 6, 7, 8, 9, 10, 11, 12, 13, 14, 15, 16, 17, 18, 2, 3] rfl) (hD.sub [19, 20, 21, 22, 23, 24, 25, 26, 27, 28, 29, 30, 31, 32, 4, 5, 6, 7, 8, 9, 10, 11, 12, 13, 14, 15, 16, 17, 18, 2, 3] (by decide) rfl) (m_Planner_roomFor N gL gU gT go gB κ υ τ ω6 β   _ h H.size) kw_431 kw_432 kw_433 kw_6 kw_434 hd_Planner_roomFor ⟨Nat.le_of_ble_eq_true rfl, Nat.le_of_ble_eq_true rfl⟩ ⟨Nat.le_of_ble_eq_true rfl, Nat.le_of_ble_eq_true rfl⟩ 0 rfl rfl rfl rfl hl.1 (Nat.le_of_ble_eq_true rfl) d_Till_tryOffer_42) (fun r8 u7 H locs h hP hD hS => ?_)
    try dsimp only at h
    refine lv_sipush (v := 3000) hx hb d_Till_tryOffer_45 (by decide) ?_
    refine lv_icmp_gt (tgt := 55) hx hb d_Till_tryOffer_48 (by decide) (fun c9 => ?_) (fun c9 => ?_)
    · replace h := h.1 c9
      refine lv_iconst (v := 0) hx hb d_Till_tryOffer_55 (by decide) ?_
      refine W.widen (k := 1) (n := 6) (Nat.le_of_ble_eq_true rfl) (Nat.le_of_ble_eq_true rfl) ?_
      exact t_Till_tryOffer_56 hlt hX hcx C N θ β τ post xp 0 ω6 u7 υ _ _ _ hP hD hS (lv_sub hl [0, 1] rfl) h
    · replace h := h.2 c9
      refine lv_iconst (v := 1) hx hb d_Till_tryOffer_51 (by decide) ?_
      refine lv_goto (tgt := 56) hx hb d_Till_tryOffer_52 (by decide) ?_
      refine W.widen (k := 1) (n := 6) (Nat.le_of_ble_eq_true rfl) (Nat.le_of_ble_eq_true rfl) ?_
      exact t_Till_tryOffer_56 hlt hX hcx C N θ β τ post xp 1 ω6 u7 υ _ _ _ hP hD hS (lv_sub hl [0, 1] rfl) h
  · subst e9
    try simp only [show (nI 4).toNatClampNeg = 4 from rfl] at h
    replace hl : lv_has ls 5 [(0, .ref (gX 0)), (2, .ref ((go 4) 0))] := hl
    refine W.eq (g2 := F0 m 27 ls [.int y0, .ref ((go 4) 0)]) rfl ?_
    obtain ⟨hz5, h⟩ := h
    refine va_put (D := D) (ci := 1) (v := .int y0) (ty := .boolean) (C := R_Offer) (T := F_Offer) (N := 6) hx hb hts in_Offer t_Offer tt_Offer n_Offer hown hK hP hD hS 15 rfl rfl 4 (by decide) (hts _ kw_64) (fun _ h9 => h9) rfl (by decide +kernel) hz5.1 hz5.2 (Nat.le_of_ble_eq_true rfl) d_Till_tryOffer_27 (fun H locs hP hD hS => ?_)
    obtain ⟨ω6, eω6⟩ : ∃ z, z = va_up ω 4 (s2 (ω 4) 4 0 y0) := ⟨_, rfl⟩
    replace hP : va_P D CL (wTill k gX θ (gT 0) (gB 0) x_keptUnits (gL 0) x_plan x_receipts ++ (wBasket k gB β ++ (wTariff k gT τ (fun i => some (go i 0)) ++ (wOffer k (go 0) (ω6 0) ++ (wOffer k (go 1) (ω6 1) ++ (wOffer k (go 2) (ω6 2) ++ (wOffer k (go 3) (ω6 3) ++ (wOffer k (go 4) (ω6 4) ++ (wOffer k (go 5) (ω6 5) ++ (wPlanner k gL κ (gU 0) ++ (wUses k gU υ))))))))))) H := by rw [eω6]; exact hP
    replace hD : va_D A (wTill k gX θ (gT 0) (gB 0) x_keptUnits (gL 0) x_plan x_receipts ++ (wBasket k gB β ++ (wTariff k gT τ (fun i => some (go i 0)) ++ (wOffer k (go 0) (ω6 0) ++ (wOffer k (go 1) (ω6 1) ++ (wOffer k (go 2) (ω6 2) ++ (wOffer k (go 3) (ω6 3) ++ (wOffer k (go 4) (ω6 4) ++ (wOffer k (go 5) (ω6 5) ++ (wPlanner k gL κ (gU 0) ++ (wUses k gU υ))))))))))) := by rw [eω6]; exact hD
    replace h := h ω6 eω6
    refine lv_aload_n hx hb d_Till_tryOffer_30 rfl (lv_at hl 0 rfl) ?_
    refine va_get (D := D) (ci := 7) (v := .ref (gL 0)) (C := R_Till) (T := F_Till) (N := 9) hx hb hts in_Till hown hK hP 0 rfl rfl 4 (by decide) (hts _ kw_240) (fun _ h9 => h9) rfl d_Till_tryOffer_31 ?_
    refine lv_aload_n hx hb d_Till_tryOffer_34 rfl (lv_at hl 0 rfl) ?_
    refine va_get (D := D) (ci := 7) (v := .ref (gT 0)) (C := R_Till) (T := F_Till) (N := 9) hx hb hts in_Till hown hK hP 0 rfl rfl 0 (by decide) (hts _ kw_236) (fun _ h9 => h9) rfl d_Till_tryOffer_35 ?_
    refine lv_aload_n hx hb d_Till_tryOffer_38 rfl (lv_at hl 0 rfl) ?_
    refine va_get (D := D) (ci := 7) (v := .ref (gB 0)) (C := R_Till) (T := F_Till) (N := 9) hx hb hts in_Till hown hK hP 0 rfl rfl 2 (by decide) (hts _ kw_238) (fun _ h9 => h9) rfl d_Till_tryOffer_39 ?_
    refine call_i (wr := [(gX 0, .inr (7, [.ref (gT 0), .ref (gX 1), .ref (gB 0), .ref x_keptUnits, .ref (gL 0), .ref x_plan, .ref x_receipts, .int (θ 7 0), .int (θ 8 0)])), (gX 1, .inl (k 0, 12, .inl (θ 1)))]) (wn := (fun u7 : (St) => wTill k gX θ (gT 0) (gB 0) x_keptUnits (gL 0) x_plan x_receipts ++ (wBasket k gB β ++ (wTariff k gT τ (fun i => some (go i 0)) ++ (wOffer k (go 0) (ω6 0) ++ (wOffer k (go 1) (ω6 1) ++ (wOffer k (go 2) (ω6 2) ++ (wOffer k (go 3) (ω6 3) ++ (wOffer k (go 4) (ω6 4) ++ (wOffer k (go 5) (ω6 5) ++ (wPlanner k gL u7 (gU 0) ++ (wUses k gU υ)))))))))))) C hP hD hS [19, 20, 21, 22, 23, 24, 25, 26, 27, 28, 29, 30, 31, 32, 4, 5, 6, 7, 8, 9, 10, 11, 12, 13, 14, 15, 16, 17, 18, 2, 3] [0, 1] [0, 1, 31, 32, 16, 17, 18, 19, 20, 21, 22, 23, 24, 25, 26, 27, 28, 29, 30, 2, 3, 4, 5, 6, 7, 8, 9, 10, 11, 12, 13, 14, 15] rfl rfl (by decide) (by decide) (fun _ => rfl) (by decide) (runV (As := [.ref (gT 0), .ref (gB 0)]) (rest := []) C (hP.sub [19, 20, 21, 22, 23, 24, 25, 26, 27, 28, 29, 30, 31, 32, 4, 5, 6, 7, 8, 9, 10, 11, 12, 13, 14, 15, 16, 17, 18, 2, 3] rfl) (hD.sub [19, 20, 21, 22, 23, 24, 25, 26, 27, 28, 29, 30, 31, 32, 4, 5, 6, 7, 8, 9, 10, 11, 12, 13, 14, 15, 16, 17, 18, 2, 3] (by decide) rfl) (m_Planner_roomFor N gL gU gT go gB κ υ τ ω6 β   _ h H.size) kw_431 kw_432 kw_433 kw_6 kw_434 hd_Planner_roomFor ⟨Nat.le_of_ble_eq_true rfl, Nat.le_of_ble_eq_true rfl⟩ ⟨Nat.le_of_ble_eq_true rfl, Nat.le_of_ble_eq_true rfl⟩ 0 rfl rfl rfl rfl hl.1 (Nat.le_of_ble_eq_true rfl) d_Till_tryOffer_42) (fun r8 u7 H locs h hP hD hS => ?_)
    try dsimp only at h
    refine lv_sipush (v := 3000) hx hb d_Till_tryOffer_45 (by decide) ?_
    refine lv_icmp_gt (tgt := 55) hx hb d_Till_tryOffer_48 (by decide) (fun c9 => ?_) (fun c9 => ?_)
    · replace h := h.1 c9
      refine lv_iconst (v := 0) hx hb d_Till_tryOffer_55 (by decide) ?_
      refine W.widen (k := 1) (n := 6) (Nat.le_of_ble_eq_true rfl) (Nat.le_of_ble_eq_true rfl) ?_
      exact t_Till_tryOffer_56 hlt hX hcx C N θ β τ post xp 0 ω6 u7 υ _ _ _ hP hD hS (lv_sub hl [0, 1] rfl) h
    · replace h := h.2 c9
      refine lv_iconst (v := 1) hx hb d_Till_tryOffer_51 (by decide) ?_
      refine lv_goto (tgt := 56) hx hb d_Till_tryOffer_52 (by decide) ?_
      refine W.widen (k := 1) (n := 6) (Nat.le_of_ble_eq_true rfl) (Nat.le_of_ble_eq_true rfl) ?_
      exact t_Till_tryOffer_56 hlt hX hcx C N θ β τ post xp 1 ω6 u7 υ _ _ _ hP hD hS (lv_sub hl [0, 1] rfl) h
  · subst e9
    try simp only [show (nI 5).toNatClampNeg = 5 from rfl] at h
    replace hl : lv_has ls 5 [(0, .ref (gX 0)), (2, .ref ((go 5) 0))] := hl
    refine W.eq (g2 := F0 m 27 ls [.int y0, .ref ((go 5) 0)]) rfl ?_
    obtain ⟨hz5, h⟩ := h
    refine va_put (D := D) (ci := 1) (v := .int y0) (ty := .boolean) (C := R_Offer) (T := F_Offer) (N := 6) hx hb hts in_Offer t_Offer tt_Offer n_Offer hown hK hP hD hS 17 rfl rfl 4 (by decide) (hts _ kw_64) (fun _ h9 => h9) rfl (by decide +kernel) hz5.1 hz5.2 (Nat.le_of_ble_eq_true rfl) d_Till_tryOffer_27 (fun H locs hP hD hS => ?_)
    obtain ⟨ω6, eω6⟩ : ∃ z, z = va_up ω 5 (s2 (ω 5) 4 0 y0) := ⟨_, rfl⟩
    replace hP : va_P D CL (wTill k gX θ (gT 0) (gB 0) x_keptUnits (gL 0) x_plan x_receipts ++ (wBasket k gB β ++ (wTariff k gT τ (fun i => some (go i 0)) ++ (wOffer k (go 0) (ω6 0) ++ (wOffer k (go 1) (ω6 1) ++ (wOffer k (go 2) (ω6 2) ++ (wOffer k (go 3) (ω6 3) ++ (wOffer k (go 4) (ω6 4) ++ (wOffer k (go 5) (ω6 5) ++ (wPlanner k gL κ (gU 0) ++ (wUses k gU υ))))))))))) H := by rw [eω6]; exact hP
    replace hD : va_D A (wTill k gX θ (gT 0) (gB 0) x_keptUnits (gL 0) x_plan x_receipts ++ (wBasket k gB β ++ (wTariff k gT τ (fun i => some (go i 0)) ++ (wOffer k (go 0) (ω6 0) ++ (wOffer k (go 1) (ω6 1) ++ (wOffer k (go 2) (ω6 2) ++ (wOffer k (go 3) (ω6 3) ++ (wOffer k (go 4) (ω6 4) ++ (wOffer k (go 5) (ω6 5) ++ (wPlanner k gL κ (gU 0) ++ (wUses k gU υ))))))))))) := by rw [eω6]; exact hD
    replace h := h ω6 eω6
    refine lv_aload_n hx hb d_Till_tryOffer_30 rfl (lv_at hl 0 rfl) ?_
    refine va_get (D := D) (ci := 7) (v := .ref (gL 0)) (C := R_Till) (T := F_Till) (N := 9) hx hb hts in_Till hown hK hP 0 rfl rfl 4 (by decide) (hts _ kw_240) (fun _ h9 => h9) rfl d_Till_tryOffer_31 ?_
    refine lv_aload_n hx hb d_Till_tryOffer_34 rfl (lv_at hl 0 rfl) ?_
    refine va_get (D := D) (ci := 7) (v := .ref (gT 0)) (C := R_Till) (T := F_Till) (N := 9) hx hb hts in_Till hown hK hP 0 rfl rfl 0 (by decide) (hts _ kw_236) (fun _ h9 => h9) rfl d_Till_tryOffer_35 ?_
    refine lv_aload_n hx hb d_Till_tryOffer_38 rfl (lv_at hl 0 rfl) ?_
    refine va_get (D := D) (ci := 7) (v := .ref (gB 0)) (C := R_Till) (T := F_Till) (N := 9) hx hb hts in_Till hown hK hP 0 rfl rfl 2 (by decide) (hts _ kw_238) (fun _ h9 => h9) rfl d_Till_tryOffer_39 ?_
    refine call_i (wr := [(gX 0, .inr (7, [.ref (gT 0), .ref (gX 1), .ref (gB 0), .ref x_keptUnits, .ref (gL 0), .ref x_plan, .ref x_receipts, .int (θ 7 0), .int (θ 8 0)])), (gX 1, .inl (k 0, 12, .inl (θ 1)))]) (wn := (fun u7 : (St) => wTill k gX θ (gT 0) (gB 0) x_keptUnits (gL 0) x_plan x_receipts ++ (wBasket k gB β ++ (wTariff k gT τ (fun i => some (go i 0)) ++ (wOffer k (go 0) (ω6 0) ++ (wOffer k (go 1) (ω6 1) ++ (wOffer k (go 2) (ω6 2) ++ (wOffer k (go 3) (ω6 3) ++ (wOffer k (go 4) (ω6 4) ++ (wOffer k (go 5) (ω6 5) ++ (wPlanner k gL u7 (gU 0) ++ (wUses k gU υ)))))))))))) C hP hD hS [19, 20, 21, 22, 23, 24, 25, 26, 27, 28, 29, 30, 31, 32, 4, 5, 6, 7, 8, 9, 10, 11, 12, 13, 14, 15, 16, 17, 18, 2, 3] [0, 1] [0, 1, 31, 32, 16, 17, 18, 19, 20, 21, 22, 23, 24, 25, 26, 27, 28, 29, 30, 2, 3, 4, 5, 6, 7, 8, 9, 10, 11, 12, 13, 14, 15] rfl rfl (by decide) (by decide) (fun _ => rfl) (by decide) (runV (As := [.ref (gT 0), .ref (gB 0)]) (rest := []) C (hP.sub [19, 20, 21, 22, 23, 24, 25, 26, 27, 28, 29, 30, 31, 32, 4, 5, 6, 7, 8, 9, 10, 11, 12, 13, 14, 15, 16, 17, 18, 2, 3] rfl) (hD.sub [19, 20, 21, 22, 23, 24, 25, 26, 27, 28, 29, 30, 31, 32, 4, 5, 6, 7, 8, 9, 10, 11, 12, 13, 14, 15, 16, 17, 18, 2, 3] (by decide) rfl) (m_Planner_roomFor N gL gU gT go gB κ υ τ ω6 β   _ h H.size) kw_431 kw_432 kw_433 kw_6 kw_434 hd_Planner_roomFor ⟨Nat.le_of_ble_eq_true rfl, Nat.le_of_ble_eq_true rfl⟩ ⟨Nat.le_of_ble_eq_true rfl, Nat.le_of_ble_eq_true rfl⟩ 0 rfl rfl rfl rfl hl.1 (Nat.le_of_ble_eq_true rfl) d_Till_tryOffer_42) (fun r8 u7 H locs h hP hD hS => ?_)
    try dsimp only at h
    refine lv_sipush (v := 3000) hx hb d_Till_tryOffer_45 (by decide) ?_
    refine lv_icmp_gt (tgt := 55) hx hb d_Till_tryOffer_48 (by decide) (fun c9 => ?_) (fun c9 => ?_)
    · replace h := h.1 c9
      refine lv_iconst (v := 0) hx hb d_Till_tryOffer_55 (by decide) ?_
      refine W.widen (k := 1) (n := 6) (Nat.le_of_ble_eq_true rfl) (Nat.le_of_ble_eq_true rfl) ?_
      exact t_Till_tryOffer_56 hlt hX hcx C N θ β τ post xp 0 ω6 u7 υ _ _ _ hP hD hS (lv_sub hl [0, 1] rfl) h
    · replace h := h.2 c9
      refine lv_iconst (v := 1) hx hb d_Till_tryOffer_51 (by decide) ?_
      refine lv_goto (tgt := 56) hx hb d_Till_tryOffer_52 (by decide) ?_
      refine W.widen (k := 1) (n := 6) (Nat.le_of_ble_eq_true rfl) (Nat.le_of_ble_eq_true rfl) ?_
      exact t_Till_tryOffer_56 hlt hX hcx C N θ β τ post xp 1 ω6 u7 υ _ _ _ hP hD hS (lv_sub hl [0, 1] rfl) h
set_option maxHeartbeats 4000000 in
set_option maxRecDepth 100000 in
theorem m_Till_tryOffer {l : Launch} {D : va_G} {k : Nat → ClassId} (hlt : l.stackTraces = false) (N : Nat) (gX : Nat → Nat) (gB : Nat → Nat) (gT : Nat → Nat) (go : Nat → Nat → Nat) (gL : Nat → Nat) (gU : Nat → Nat) (x_keptUnits : Nat) (x_plan : Nat) (x_receipts : Nat) (θ : St) (β : St) (τ : St) (ω : Nat → St) (κ : St) (υ : St) (x1 : Int32) (post : Int32 → ((Nat → St) × (St) × (St)) → Prop) (xp : String → ((Nat → St) × (St) × (St)) → Prop) (h : wp_Till_tryOffer N  θ β τ ω κ υ x1 post xp) : CX l D k y_Till_tryOffer b_Till_tryOffer 5 (some .int) rm_Till_tryOffer [.ref (gX 0), .int x1] (wTill k gX θ (gT 0) (gB 0) x_keptUnits (gL 0) x_plan x_receipts ++ (wBasket k gB β ++ (wTariff k gT τ (fun i => some (go i 0)) ++ (wOffer k (go 0) (ω 0) ++ (wOffer k (go 1) (ω 1) ++ (wOffer k (go 2) (ω 2) ++ (wOffer k (go 3) (ω 3) ++ (wOffer k (go 4) (ω 4) ++ (wOffer k (go 5) (ω 5) ++ (wPlanner k gL κ (gU 0) ++ (wUses k gU υ))))))))))) (fun u : (Nat → St) × (St) × (St) => wTill k gX θ (gT 0) (gB 0) x_keptUnits (gL 0) x_plan x_receipts ++ (wBasket k gB β ++ (wTariff k gT τ (fun i => some (go i 0)) ++ (wOffer k (go 0) (u.1 0) ++ (wOffer k (go 1) (u.1 1) ++ (wOffer k (go 2) (u.1 2) ++ (wOffer k (go 3) (u.1 3) ++ (wOffer k (go 4) (u.1 4) ++ (wOffer k (go 5) (u.1 5) ++ (wPlanner k gL u.2.1 (gU 0) ++ (wUses k gU u.2.2))))))))))) (fun v (u : (Nat → St) × (St) × (St)) => ∃ r : Int32, v = some (.int r) ∧ post r u) xp := by
  refine CX.of (by decide) (Nat.le_of_ble_eq_true rfl) ?_
  intro p e s m below meth c A H locs ls C hX hcx hP hD hS hl
  obtain ⟨hx, hb, hr, hlk, hml, hown, hts, hK, hA⟩ := id C
  obtain ⟨t9, hZ9, hT9, hE9⟩ := id hX.2
  replace hl : lv_has ls 5 [(0, .ref (gX 0)), (1, .int x1)] := hl
  unfold wp_Till_tryOffer at h
  refine lv_iload_n hx hb d_Till_tryOffer_0 rfl (lv_at hl 1 rfl) ?_
  refine callXS (As := [.int x1]) (rest := []) C hX hS (Jn.none (S := Unit) hP hD hS hA) (m_Till_requireOffer hlt N   x1  _ _ h) kw_381 kw_382 kw_1 kw_383 (hd_Till_requireOffer).2 rfl ⟨Nat.le_of_ble_eq_true rfl, Nat.le_of_ble_eq_true rfl⟩ ⟨Nat.le_of_ble_eq_true rfl, Nat.le_of_ble_eq_true rfl⟩ hl.1 (Nat.le_of_ble_eq_true rfl) d_Till_tryOffer_1 (fun v9 u1 H locs h hP hD hS => ?_) (fun q9 E9 u9 ce9 H locs h hP hD hS hce9 hcv9 hcl9 => ?_)
  rotate_left
  · exact outX (u := (ω, κ, υ)) (wf := (fun u : (Nat → St) × (St) × (St) => wTill k gX θ (gT 0) (gB 0) x_keptUnits (gL 0) x_plan x_receipts ++ (wBasket k gB β ++ (wTariff k gT τ (fun i => some (go i 0)) ++ (wOffer k (go 0) (u.1 0) ++ (wOffer k (go 1) (u.1 1) ++ (wOffer k (go 2) (u.1 2) ++ (wOffer k (go 3) (u.1 3) ++ (wOffer k (go 4) (u.1 4) ++ (wOffer k (go 5) (u.1 5) ++ (wPlanner k gL u.2.1 (gU 0) ++ (wUses k gU u.2.2)))))))))))) C hcx hP hD hS hce9 hcv9 hcl9 (Nat.le_of_ble_eq_true rfl) (Nat.le_of_ble_eq_true rfl) h
  obtain ⟨rfl, h⟩ := h
  refine W.eq (g2 := F0 m 4 ls []) rfl ?_
  replace hP : va_P D CL (wTill k gX θ (gT 0) (gB 0) x_keptUnits (gL 0) x_plan x_receipts ++ (wBasket k gB β ++ (wTariff k gT τ (fun i => some (go i 0)) ++ (wOffer k (go 0) (ω 0) ++ (wOffer k (go 1) (ω 1) ++ (wOffer k (go 2) (ω 2) ++ (wOffer k (go 3) (ω 3) ++ (wOffer k (go 4) (ω 4) ++ (wOffer k (go 5) (ω 5) ++ (wPlanner k gL κ (gU 0) ++ (wUses k gU υ))))))))))) H := hP
  replace hD : va_D A (wTill k gX θ (gT 0) (gB 0) x_keptUnits (gL 0) x_plan x_receipts ++ (wBasket k gB β ++ (wTariff k gT τ (fun i => some (go i 0)) ++ (wOffer k (go 0) (ω 0) ++ (wOffer k (go 1) (ω 1) ++ (wOffer k (go 2) (ω 2) ++ (wOffer k (go 3) (ω 3) ++ (wOffer k (go 4) (ω 4) ++ (wOffer k (go 5) (ω 5) ++ (wPlanner k gL κ (gU 0) ++ (wUses k gU υ))))))))))) := hD
  try dsimp only at h
  refine lv_aload_n hx hb d_Till_tryOffer_4 rfl (lv_at hl 0 rfl) ?_
  refine va_get (D := D) (ci := 7) (v := .ref (gT 0)) (C := R_Till) (T := F_Till) (N := 9) hx hb hts in_Till hown hK hP 0 rfl rfl 0 (by decide) (hts _ kw_236) (fun _ h9 => h9) rfl d_Till_tryOffer_5 ?_
  refine va_get (D := D) (ci := 5) (v := .ref (gT 2)) (C := R_Tariff) (T := F_Tariff) (N := 2) hx hb hts in_Tariff hown hK hP 4 rfl rfl 1 (by decide) (hts _ kw_89) (fun _ h9 => h9) rfl d_Till_tryOffer_8 ?_
  refine lv_iload_n hx hb d_Till_tryOffer_11 rfl (lv_at hl 1 rfl) ?_
  obtain ⟨hi3, h⟩ := h
  refine va_aldq hx hb hK hP 6 3 rfl rfl hi3 d_Till_tryOffer_12 ?_
  obtain ⟨i9, hi9, e9⟩ := vp_in_of hi3 (by decide)
  rcases (show i9 = 0 ∨ i9 = 1 ∨ i9 = 2 ∨ i9 = 3 ∨ i9 = 4 ∨ i9 = 5 by omega) with rfl | rfl | rfl | rfl | rfl | rfl
  · subst e9
    try simp only [show (nI 0).toNatClampNeg = 0 from rfl] at h
    refine W.eq (g2 := F0 m 13 ls [.ref ((go 0) 0)]) rfl ?_
    refine lv_astore_n (lv' := [(2, .ref ((go 0) 0)), (0, .ref (gX 0)), (1, .int (nI 0))]) hx hb d_Till_tryOffer_13 rfl hl (by decide) rfl (fun ls hl => ?_)
    refine lv_aload_n hx hb d_Till_tryOffer_14 rfl (lv_at hl 0 rfl) ?_
    refine lv_aload_n hx hb d_Till_tryOffer_15 rfl (lv_at hl 0 rfl) ?_
    refine va_get (D := D) (ci := 1) (v := .int ((ω 0) 4 0)) (C := R_Offer) (T := F_Offer) (N := 6) hx hb hts in_Offer hown hK hP 7 rfl rfl 4 (by decide) (hts _ kw_64) (fun _ h9 => h9) rfl d_Till_tryOffer_16 ?_
    refine lv_if_ne (tgt := 26) hx hb d_Till_tryOffer_19 (by decide) (fun c4 => ?_) (fun c4 => ?_)
    · replace h := h.1 c4
      refine lv_iconst (v := 0) hx hb d_Till_tryOffer_26 (by decide) ?_
      refine W.widen (k := 1) (n := 6) (Nat.le_of_ble_eq_true rfl) (Nat.le_of_ble_eq_true rfl) ?_
      exact t_Till_tryOffer_27 hlt hX hcx C N θ β τ post xp 0 ω κ υ _ _ _ hP hD hS (lv_sub hl [1, 0] rfl) h
    · replace h := h.2 c4
      refine lv_iconst (v := 1) hx hb d_Till_tryOffer_22 (by decide) ?_
      refine lv_goto (tgt := 27) hx hb d_Till_tryOffer_23 (by decide) ?_
      refine W.widen (k := 1) (n := 6) (Nat.le_of_ble_eq_true rfl) (Nat.le_of_ble_eq_true rfl) ?_
      exact t_Till_tryOffer_27 hlt hX hcx C N θ β τ post xp 1 ω κ υ _ _ _ hP hD hS (lv_sub hl [1, 0] rfl) h
  · subst e9
    try simp only [show (nI 1).toNatClampNeg = 1 from rfl] at h
    refine W.eq (g2 := F0 m 13 ls [.ref ((go 1) 0)]) rfl ?_
    refine lv_astore_n (lv' := [(2, .ref ((go 1) 0)), (0, .ref (gX 0)), (1, .int (nI 1))]) hx hb d_Till_tryOffer_13 rfl hl (by decide) rfl (fun ls hl => ?_)
    refine lv_aload_n hx hb d_Till_tryOffer_14 rfl (lv_at hl 0 rfl) ?_
    refine lv_aload_n hx hb d_Till_tryOffer_15 rfl (lv_at hl 0 rfl) ?_
    refine va_get (D := D) (ci := 1) (v := .int ((ω 1) 4 0)) (C := R_Offer) (T := F_Offer) (N := 6) hx hb hts in_Offer hown hK hP 9 rfl rfl 4 (by decide) (hts _ kw_64) (fun _ h9 => h9) rfl d_Till_tryOffer_16 ?_
    refine lv_if_ne (tgt := 26) hx hb d_Till_tryOffer_19 (by decide) (fun c4 => ?_) (fun c4 => ?_)
    · replace h := h.1 c4
      refine lv_iconst (v := 0) hx hb d_Till_tryOffer_26 (by decide) ?_
      refine W.widen (k := 1) (n := 6) (Nat.le_of_ble_eq_true rfl) (Nat.le_of_ble_eq_true rfl) ?_
      exact t_Till_tryOffer_27 hlt hX hcx C N θ β τ post xp 0 ω κ υ _ _ _ hP hD hS (lv_sub hl [1, 0] rfl) h
    · replace h := h.2 c4
      refine lv_iconst (v := 1) hx hb d_Till_tryOffer_22 (by decide) ?_
      refine lv_goto (tgt := 27) hx hb d_Till_tryOffer_23 (by decide) ?_
      refine W.widen (k := 1) (n := 6) (Nat.le_of_ble_eq_true rfl) (Nat.le_of_ble_eq_true rfl) ?_
      exact t_Till_tryOffer_27 hlt hX hcx C N θ β τ post xp 1 ω κ υ _ _ _ hP hD hS (lv_sub hl [1, 0] rfl) h
  · subst e9
    try simp only [show (nI 2).toNatClampNeg = 2 from rfl] at h
    refine W.eq (g2 := F0 m 13 ls [.ref ((go 2) 0)]) rfl ?_
    refine lv_astore_n (lv' := [(2, .ref ((go 2) 0)), (0, .ref (gX 0)), (1, .int (nI 2))]) hx hb d_Till_tryOffer_13 rfl hl (by decide) rfl (fun ls hl => ?_)
    refine lv_aload_n hx hb d_Till_tryOffer_14 rfl (lv_at hl 0 rfl) ?_
    refine lv_aload_n hx hb d_Till_tryOffer_15 rfl (lv_at hl 0 rfl) ?_
    refine va_get (D := D) (ci := 1) (v := .int ((ω 2) 4 0)) (C := R_Offer) (T := F_Offer) (N := 6) hx hb hts in_Offer hown hK hP 11 rfl rfl 4 (by decide) (hts _ kw_64) (fun _ h9 => h9) rfl d_Till_tryOffer_16 ?_
    refine lv_if_ne (tgt := 26) hx hb d_Till_tryOffer_19 (by decide) (fun c4 => ?_) (fun c4 => ?_)
    · replace h := h.1 c4
      refine lv_iconst (v := 0) hx hb d_Till_tryOffer_26 (by decide) ?_
      refine W.widen (k := 1) (n := 6) (Nat.le_of_ble_eq_true rfl) (Nat.le_of_ble_eq_true rfl) ?_
      exact t_Till_tryOffer_27 hlt hX hcx C N θ β τ post xp 0 ω κ υ _ _ _ hP hD hS (lv_sub hl [1, 0] rfl) h
    · replace h := h.2 c4
      refine lv_iconst (v := 1) hx hb d_Till_tryOffer_22 (by decide) ?_
      refine lv_goto (tgt := 27) hx hb d_Till_tryOffer_23 (by decide) ?_
      refine W.widen (k := 1) (n := 6) (Nat.le_of_ble_eq_true rfl) (Nat.le_of_ble_eq_true rfl) ?_
      exact t_Till_tryOffer_27 hlt hX hcx C N θ β τ post xp 1 ω κ υ _ _ _ hP hD hS (lv_sub hl [1, 0] rfl) h
  · subst e9
    try simp only [show (nI 3).toNatClampNeg = 3 from rfl] at h
    refine W.eq (g2 := F0 m 13 ls [.ref ((go 3) 0)]) rfl ?_
    refine lv_astore_n (lv' := [(2, .ref ((go 3) 0)), (0, .ref (gX 0)), (1, .int (nI 3))]) hx hb d_Till_tryOffer_13 rfl hl (by decide) rfl (fun ls hl => ?_)
    refine lv_aload_n hx hb d_Till_tryOffer_14 rfl (lv_at hl 0 rfl) ?_
    refine lv_aload_n hx hb d_Till_tryOffer_15 rfl (lv_at hl 0 rfl) ?_
    refine va_get (D := D) (ci := 1) (v := .int ((ω 3) 4 0)) (C := R_Offer) (T := F_Offer) (N := 6) hx hb hts in_Offer hown hK hP 13 rfl rfl 4 (by decide) (hts _ kw_64) (fun _ h9 => h9) rfl d_Till_tryOffer_16 ?_
    refine lv_if_ne (tgt := 26) hx hb d_Till_tryOffer_19 (by decide) (fun c4 => ?_) (fun c4 => ?_)
    · replace h := h.1 c4
      refine lv_iconst (v := 0) hx hb d_Till_tryOffer_26 (by decide) ?_
      refine W.widen (k := 1) (n := 6) (Nat.le_of_ble_eq_true rfl) (Nat.le_of_ble_eq_true rfl) ?_
      exact t_Till_tryOffer_27 hlt hX hcx C N θ β τ post xp 0 ω κ υ _ _ _ hP hD hS (lv_sub hl [1, 0] rfl) h
    · replace h := h.2 c4
      refine lv_iconst (v := 1) hx hb d_Till_tryOffer_22 (by decide) ?_
      refine lv_goto (tgt := 27) hx hb d_Till_tryOffer_23 (by decide) ?_
      refine W.widen (k := 1) (n := 6) (Nat.le_of_ble_eq_true rfl) (Nat.le_of_ble_eq_true rfl) ?_
      exact t_Till_tryOffer_27 hlt hX hcx C N θ β τ post xp 1 ω κ υ _ _ _ hP hD hS (lv_sub hl [1, 0] rfl) h
  · subst e9
    try simp only [show (nI 4).toNatClampNeg = 4 from rfl] at h
    refine W.eq (g2 := F0 m 13 ls [.ref ((go 4) 0)]) rfl ?_
    refine lv_astore_n (lv' := [(2, .ref ((go 4) 0)), (0, .ref (gX 0)), (1, .int (nI 4))]) hx hb d_Till_tryOffer_13 rfl hl (by decide) rfl (fun ls hl => ?_)
    refine lv_aload_n hx hb d_Till_tryOffer_14 rfl (lv_at hl 0 rfl) ?_
    refine lv_aload_n hx hb d_Till_tryOffer_15 rfl (lv_at hl 0 rfl) ?_
    refine va_get (D := D) (ci := 1) (v := .int ((ω 4) 4 0)) (C := R_Offer) (T := F_Offer) (N := 6) hx hb hts in_Offer hown hK hP 15 rfl rfl 4 (by decide) (hts _ kw_64) (fun _ h9 => h9) rfl d_Till_tryOffer_16 ?_
    refine lv_if_ne (tgt := 26) hx hb d_Till_tryOffer_19 (by decide) (fun c4 => ?_) (fun c4 => ?_)
    · replace h := h.1 c4
      refine lv_iconst (v := 0) hx hb d_Till_tryOffer_26 (by decide) ?_
      refine W.widen (k := 1) (n := 6) (Nat.le_of_ble_eq_true rfl) (Nat.le_of_ble_eq_true rfl) ?_
      exact t_Till_tryOffer_27 hlt hX hcx C N θ β τ post xp 0 ω κ υ _ _ _ hP hD hS (lv_sub hl [1, 0] rfl) h
    · replace h := h.2 c4
      refine lv_iconst (v := 1) hx hb d_Till_tryOffer_22 (by decide) ?_
      refine lv_goto (tgt := 27) hx hb d_Till_tryOffer_23 (by decide) ?_
      refine W.widen (k := 1) (n := 6) (Nat.le_of_ble_eq_true rfl) (Nat.le_of_ble_eq_true rfl) ?_
      exact t_Till_tryOffer_27 hlt hX hcx C N θ β τ post xp 1 ω κ υ _ _ _ hP hD hS (lv_sub hl [1, 0] rfl) h
  · subst e9
    try simp only [show (nI 5).toNatClampNeg = 5 from rfl] at h
    refine W.eq (g2 := F0 m 13 ls [.ref ((go 5) 0)]) rfl ?_
    refine lv_astore_n (lv' := [(2, .ref ((go 5) 0)), (0, .ref (gX 0)), (1, .int (nI 5))]) hx hb d_Till_tryOffer_13 rfl hl (by decide) rfl (fun ls hl => ?_)
    refine lv_aload_n hx hb d_Till_tryOffer_14 rfl (lv_at hl 0 rfl) ?_
    refine lv_aload_n hx hb d_Till_tryOffer_15 rfl (lv_at hl 0 rfl) ?_
    refine va_get (D := D) (ci := 1) (v := .int ((ω 5) 4 0)) (C := R_Offer) (T := F_Offer) (N := 6) hx hb hts in_Offer hown hK hP 17 rfl rfl 4 (by decide) (hts _ kw_64) (fun _ h9 => h9) rfl d_Till_tryOffer_16 ?_
    refine lv_if_ne (tgt := 26) hx hb d_Till_tryOffer_19 (by decide) (fun c4 => ?_) (fun c4 => ?_)
    · replace h := h.1 c4
      refine lv_iconst (v := 0) hx hb d_Till_tryOffer_26 (by decide) ?_
      refine W.widen (k := 1) (n := 6) (Nat.le_of_ble_eq_true rfl) (Nat.le_of_ble_eq_true rfl) ?_
      exact t_Till_tryOffer_27 hlt hX hcx C N θ β τ post xp 0 ω κ υ _ _ _ hP hD hS (lv_sub hl [1, 0] rfl) h
    · replace h := h.2 c4
      refine lv_iconst (v := 1) hx hb d_Till_tryOffer_22 (by decide) ?_
      refine lv_goto (tgt := 27) hx hb d_Till_tryOffer_23 (by decide) ?_
      refine W.widen (k := 1) (n := 6) (Nat.le_of_ble_eq_true rfl) (Nat.le_of_ble_eq_true rfl) ?_
      exact t_Till_tryOffer_27 hlt hX hcx C N θ β τ post xp 1 ω κ υ _ _ _ hP hD hS (lv_sub hl [1, 0] rfl) h
