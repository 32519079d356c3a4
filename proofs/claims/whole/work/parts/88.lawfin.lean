/-! the law's wrapper of finish, over any contract of finish -/
abbrev rmL (r : Room) : Room := { frames := r.frames + 1, cells := r.cells, slots := r.slots, locals := 8 + (3 + 11) + r.locals + 8 }
theorem hd_Law_finish : y_Till_finish.cls = "PromotionTill" ∧ y_Till_finish.cls ≠ "java/lang/invoke/MethodHandle" ∧ y_Till_finish.cls ≠ "java/lang/invoke/VarHandle" ∧ (parseMethodDescriptor y_Till_finish.desc).map (fun d => d.parameters.length) = some 1 := by decide +kernel
/-- what the wrapper answers, out of what finish answers -/
def lfP {S : Type} (ο : Nat → Int64) (post : Int32 → S → Prop) (xp : String → S → Prop) (r : Int32) (u : S × (Nat → Int64)) : Prop :=
  (r = 0 ∧ ∃ r2, post r2 u.1 ∧ u.2 = vp_updL ο (Int32.toNatClampNeg 0) (Int32.toInt64 r2)) ∨ (r = 1 ∧ xp eIS u.1 ∧ u.2 = ο) ∨ (r = 2 ∧ xp eIA u.1 ∧ u.2 = ο) ∨ (r = 3 ∧ xp eUO u.1 ∧ u.2 = ο)
set_option maxHeartbeats 4000000 in
theorem m_Law_finish {l : Launch} {D : va_G} {k : Nat → ClassId} {S : Type} {rm : Room} {q : Nat} {x1 : Int32} {ws : va_W} {wf : S → va_W} {post : Int32 → S → Prop} {xp : String → S → Prop} {fs : List Value} (gQ : Nat → Nat) (ο : Nat → Int64)
    (hM : CX l D k y_Till_finish b_Till_finish 3 (some .int) rm [.ref q, .int x1] ws wf (fun v u => ∃ r : Int32, v = some (.int r) ∧ post r u) xp) (hq : ws[0]? = some (q, .inr (7, fs))) (hxp : ∀ E u, xp E u → E = eIS ∨ E = eIA ∨ E = eUO) :
    CW l D k y_Law_finish b_Law_finish 4 [(0, 9, 12, 15), (0, 9, 15, 13), (0, 9, 18, 33)] (rmL rm) [.ref q, .int x1, .ref (gQ 0)] (wOut k gQ ο ++ ws) (fun u : S × (Nat → Int64) => wOut k gQ u.2 ++ wf u.1) (fun v u => ∃ r : Int32, v = some (.int r) ∧ lfP ο post xp r u) := by
  refine CW.of (by decide) (Nat.le_of_ble_eq_true rfl) ?_
  intro p e s m below meth c A H locs ls C hX hcx hP hD hS hl
  obtain ⟨hx, hb, hr, hlk, hml, hown, hts, hK, hA⟩ := id C
  replace hl : lv_has ls 4 [(0, .ref q), (1, .int x1), (2, .ref (gQ 0))] := hl
  have hcs : 0 + rm.cells ≤ (rmL rm).cells ∧ 0 + rm.slots ≤ (rmL rm).slots := ⟨Nat.le_of_eq (Nat.zero_add _), Nat.le_of_eq (Nat.zero_add _)⟩
  refine lv_aload_n hx hb d_Law_finish_0 rfl (lv_at hl 2 rfl) ?_
  refine lv_iconst (v := 0) hx hb d_Law_finish_1 (by decide) ?_
  refine lv_aload_n hx hb d_Law_finish_2 rfl (lv_at hl 0 rfl) ?_
  refine lv_iload_n hx hb d_Law_finish_3 rfl (lv_at hl 1 rfl) ?_
  refine callXV (As := [.int x1]) (rest := [.int 0, .ref (gQ 0)]) C hX hS (Jn.front hP hD hS hA) hM kw_685 kw_686 kw_687 kw_1 kw_688 hd_Law_finish 0 hq rfl rfl rfl ⟨Nat.le_refl _, by show 8 + (3 + 11) + rm.locals ≤ 8 + (3 + 11) + rm.locals + 8; omega⟩ hcs hl.1 (Nat.le_of_ble_eq_true rfl) d_Law_finish_4 (fun v9 u1 H locs h hP hD hS => ?_) (fun q9 E9 u1 ce9 H locs h hP hD hS hce9 hcv9 hcl9 => ?_)
  · obtain ⟨r2, rfl, h⟩ := h
    refine W.eq (g2 := F0 m 7 ls [.int r2, .int 0, .ref (gQ 0)]) rfl ?_
    refine lv_i2l hx hb d_Law_finish_7 rfl ?_
    refine va_last hx hb hK hP hD hS 0 2 rfl rfl (by unfold vp_in; decide) d_Law_finish_8 (fun H locs hP hD hS => ?_)
    refine lv_goto (tgt := 21) hx hb d_Law_finish_9 (by decide) ?_
    refine lv_iconst (v := 0) hx hb d_Law_finish_21 (by decide) ?_
    exact retX_i (u := (u1, vp_updL ο (Int32.toNatClampNeg 0) (Int32.toInt64 r2))) (wf := fun u : S × (Nat → Int64) => wOut k gQ u.2 ++ wf u.1) C hP hD hS hcs.1 hcs.2 ⟨_, rfl, Or.inl ⟨rfl, r2, h, rfl⟩⟩ d_Law_finish_22
  · rcases hxp E9 u1 h with rfl | rfl | rfl
    · refine catchX C hX [] { startPc := 0, endPc := 9, handlerPc := 12, catchType := 15 } [{ startPc := 0, endPc := 9, handlerPc := 15, catchType := 13 }, { startPc := 0, endPc := 9, handlerPc := 18, catchType := 33 }] hcx (fun z hz => by cases hz) (by decide) (by decide) kw_268 (by decide +kernel) hce9 hcv9 hcl9 ?_
      refine W.eq (g2 := F0 m 12 ls [.ref q9]) rfl ?_
      refine lv_astore_n (lv' := [(3, .ref q9), (0, .ref q), (1, .int x1), (2, .ref (gQ 0))]) hx hb d_Law_finish_12 rfl hl (by decide) rfl (fun ls hl => ?_)
      refine lv_iconst (v := 1) hx hb d_Law_finish_13 (by decide) ?_
      exact retX_i (u := (u1, ο)) (wf := fun u : S × (Nat → Int64) => wOut k gQ u.2 ++ wf u.1) C hP hD hS hcs.1 hcs.2 ⟨_, rfl, Or.inr (Or.inl ⟨rfl, h, rfl⟩)⟩ d_Law_finish_14
    · refine catchX C hX [{ startPc := 0, endPc := 9, handlerPc := 12, catchType := 15 }] { startPc := 0, endPc := 9, handlerPc := 15, catchType := 13 } [{ startPc := 0, endPc := 9, handlerPc := 18, catchType := 33 }] hcx (fun z hz => by rw [List.mem_singleton] at hz; subst hz; exact ⟨by decide, _, kw_268, va_Nc.of (hX.1 s #[] (State.WarmedH.refl s) (fun _ _ _ => rfl) _ (by decide +kernel : Cond.not (.castable eIA eIS) ∈ xW))⟩) (by decide) (by decide) kw_267 (by decide +kernel) hce9 hcv9 hcl9 ?_
      refine W.eq (g2 := F0 m 15 ls [.ref q9]) rfl ?_
      refine lv_astore_n (lv' := [(3, .ref q9), (0, .ref q), (1, .int x1), (2, .ref (gQ 0))]) hx hb d_Law_finish_15 rfl hl (by decide) rfl (fun ls hl => ?_)
      refine lv_iconst (v := 2) hx hb d_Law_finish_16 (by decide) ?_
      exact retX_i (u := (u1, ο)) (wf := fun u : S × (Nat → Int64) => wOut k gQ u.2 ++ wf u.1) C hP hD hS hcs.1 hcs.2 ⟨_, rfl, Or.inr (Or.inr (Or.inl ⟨rfl, h, rfl⟩))⟩ d_Law_finish_17
    · refine catchX C hX [{ startPc := 0, endPc := 9, handlerPc := 12, catchType := 15 }, { startPc := 0, endPc := 9, handlerPc := 15, catchType := 13 }] { startPc := 0, endPc := 9, handlerPc := 18, catchType := 33 } [] hcx (fun z hz => ?_) (by decide) (by decide) kw_406 (by decide +kernel) hce9 hcv9 hcl9 ?_
      · rcases List.mem_cons.mp hz with rfl | hz
        · exact ⟨by decide, _, kw_268, va_Nc.of (hX.1 s #[] (State.WarmedH.refl s) (fun _ _ _ => rfl) _ (by decide +kernel : Cond.not (.castable eUO eIS) ∈ xW))⟩
        · rw [List.mem_singleton] at hz
          subst hz
          exact ⟨by decide, _, kw_267, va_Nc.of (hX.1 s #[] (State.WarmedH.refl s) (fun _ _ _ => rfl) _ (by decide +kernel : Cond.not (.castable eUO eIA) ∈ xW))⟩
      refine W.eq (g2 := F0 m 18 ls [.ref q9]) rfl ?_
      refine lv_astore_n (lv' := [(3, .ref q9), (0, .ref q), (1, .int x1), (2, .ref (gQ 0))]) hx hb d_Law_finish_18 rfl hl (by decide) rfl (fun ls hl => ?_)
      refine lv_iconst (v := 3) hx hb d_Law_finish_19 (by decide) ?_
      exact retX_i (u := (u1, ο)) (wf := fun u : S × (Nat → Int64) => wOut k gQ u.2 ++ wf u.1) C hP hD hS hcs.1 hcs.2 ⟨_, rfl, Or.inr (Or.inr (Or.inr ⟨rfl, h, rfl⟩))⟩ d_Law_finish_20
