/-! the law: its beginning (by program) -/
theorem pm_beg {α : Type} (t ta o0 o1 o2 o3 o4 o5 b K L U P R al m o : List α) : (((([] ++ (t ++ (ta ++ (o0 ++ (o1 ++ (o2 ++ (o3 ++ (o4 ++ (o5 ++ (b ++ (K ++ (L ++ (U ++ (P ++ (R ++ al))))))))))))))) ++ m) ++ o)).Perm (o ++ (m ++ (t ++ (b ++ (ta ++ (o0 ++ (o1 ++ (o2 ++ (o3 ++ (o4 ++ (o5 ++ (L ++ (U ++ (P ++ (R ++ (K ++ (al ++ []))))))))))))))))) := by
  classical
  exact List.perm_iff_count.mpr (fun a => by simp only [List.count_append, List.count_nil]; omega)
set_option maxHeartbeats 4000000 in
set_option maxRecDepth 100000 in
theorem lw_begin {p : Program} {l : Launch} {e : Env} {s : State} {m : MethodId} {below : List Frame} {meth : Method} {c : Code} {Q : State → Prop} {ls : Array Slot} {D : va_G} {k : Nat → ClassId} {A : Nat → Prop} {b L : Nat} {xs : Nat → Int32} (Z : Lx p s m meth c D k A b L xs) (hlt : l.stackTraces = false) (hl : lv_has ls 7 [(0, .ref b)]) (kE : ∀ (H : Heap) (locs : List Loc) (ls : Array Slot) (cells slots : Nat), va_S A s.heap H locs → cells ≤ 601024 → slots ≤ 7293034 → ls.size = 7 → W p l e room_1 s m #[Value.ref b] below meth c H locs cells slots Q (F0 m 1034 ls [])) : W p l e room_1 s m #[Value.ref b] below meth c s.heap [] 0 0 Q (F0 m 0 ls []) := by
  obtain ⟨C, hX, hXs, hbl, hbA, hL⟩ := id Z
  obtain ⟨hx, hb, hr, hlk, hml, hown, hts, hK, hA⟩ := id C
  have hfill : wp_J_fill12 100001 (fun _ => (fun _ => 0)) 100 (fun u => ∀ i, i < 12 → u 0 i = 100) := pf_fill12 100001 (by omega) _ _ _ (fun u h => h)
  have hP : va_P D CL [] s.heap := fun j q h => by cases h
  have hD : va_D A [] := ⟨fun i j p q h => (by cases h), fun j q h => (by cases h)⟩
  have hS : va_S A s.heap s.heap [] := va_S.rf
  refine va_new (ci := 7) (fs := [.null, .null, .null, .null, .null, .null, .null, .int 0, .int 0]) (C := R_Till) (T := F_Till) (N := 9) hx hb hts in_Till t_Till tt_Till hown (hts _ kw_26) (hts _ kw_27) (hts _ kw_1) hK hP hD hS hA rfl (by decide) (Nat.le_of_ble_eq_true rfl) (Nat.le_of_ble_eq_true rfl) d_law_0 (fun q0 H0 hP0 hD0 hS0 => ?_)
  refine lv_dup hx hb d_law_3 rfl ?_
  refine callXI (As := []) (rest := [.ref q0]) C hX hS0 (Jn.front (wr := []) hP0 hD0 hS0 hA) (m_Till_init q0 100001 _ hfill) (Or.inl kw_28) kw_29 kw_1 kw_30 rfl (hd_Till_init).2 rfl ⟨(Nat.le_of_ble_eq_true rfl), (Nat.le_of_ble_eq_true rfl)⟩ ⟨(Nat.le_of_ble_eq_true rfl), (Nat.le_of_ble_eq_true rfl)⟩ hl.1 (Nat.le_of_ble_eq_true rfl) d_law_4 (fun u1 H locs h9 hP2 hD2 hS2 => ?_) (fun _ _ h => h.1)
  obtain ⟨v9, ⟨-, e9, hf9⟩, -⟩ := h9
  subst e9
  refine W.eq (g2 := F0 m 7 ls [.ref u1.2.2.2.2.1]) rfl ?_
  refine lv_astore_n (lv' := [(1, .ref u1.2.2.2.2.1), (0, .ref b)]) hx hb d_law_7 rfl hl (by decide) rfl (fun ls hl => ?_)
  refine va_new (ci := 8) (fs := [.null, .null, .null, .null, .null, .null, .null, .null, .null, .int 0, .int 0, .int 0, .null, .null, .null, .null, .null, .null, .null, .null, .null, .null, .int 0, .int 0, .null, .null, .null, .null, .null, .int 0, .null, .null, .int 0, .int 0, .null, .null, .null, .null, .int 0, .int 0]) (C := R_Model) (T := F_Model) (N := 40) hx hb hts in_Model t_Model tt_Model hown (hts _ kw_856) (hts _ kw_857) (hts _ kw_12) hK hP2 hD2 hS2 hA rfl (by decide) (Nat.le_of_ble_eq_true rfl) (Nat.le_of_ble_eq_true rfl) d_law_8 (fun q1 H1 hP1 hD1 hS1 => ?_)
  refine lv_dup hx hb d_law_11 rfl ?_
  refine callXI (As := []) (rest := [.ref q1]) C hX hS1 (Jn.front hP1 hD1 hS1 hA) (m_Model_init q1) (Or.inl kw_858) kw_859 kw_12 kw_860 rfl (hd_Model_init).2 rfl ⟨(Nat.le_of_ble_eq_true rfl), (Nat.le_of_ble_eq_true rfl)⟩ ⟨(Nat.le_of_ble_eq_true rfl), (Nat.le_of_ble_eq_true rfl)⟩ hl.1 (Nat.le_of_ble_eq_true rfl) d_law_12 (fun gM H locs h9 hP3 hD3 hS3 => ?_) (fun _ _ h => h.1)
  obtain ⟨v9, ⟨-, e9⟩, -⟩ := h9
  subst e9
  refine W.eq (g2 := F0 m 15 ls [.ref (gM 0)]) rfl ?_
  refine lv_astore_n (lv' := [(2, .ref (gM 0)), (1, .ref u1.2.2.2.2.1), (0, .ref b)]) hx hb d_law_15 rfl hl (by decide) rfl (fun ls hl => ?_)
  refine lv_iconst (v := 1) hx hb d_law_16 (by decide) ?_
  refine new_a (atype := .long) (ty := .long) (a0 := (1, .inr (.inl (fun _ => 0)))) C hP3 hD3 hS3 rfl 2 rfl kw_209 (fun _ => rfl) (by decide) rfl (by decide) (Nat.le_of_ble_eq_true rfl) (Nat.le_of_ble_eq_true rfl) d_law_17 (fun q2 H hP hD hS => ?_)
  refine lv_astore_n (lv' := [(3, .ref q2), (2, .ref (gM 0)), (1, .ref u1.2.2.2.2.1), (0, .ref b)]) hx hb d_law_19 rfl hl (by decide) rfl (fun ls hl => ?_)
  refine lv_iconst (v := nI 0) hx hb d_law_20 (by decide) ?_
  refine lv_istore (lv' := [(4, .int (nI 0)), (3, .ref q2), (2, .ref (gM 0)), (1, .ref u1.2.2.2.2.1), (0, .ref b)]) hx hb d_law_21 hl (by decide) rfl (fun ls hl => ?_)
  have hP9 : va_P D CL (wLaw k (adr [q2]) gM (adr [u1.2.2.2.2.1, u1.2.2.2.2.2.2]) u1.2.1.1 u1.1.1.1 u1.2.1.2 u1.2.2.1.1 u1.2.2.1.2 u1.2.2.2.1.1 u1.2.2.2.1.2 (adr [u1.2.2.2.2.2.1]) u1.1.1.2 (fun _ => 0) (fun _ => 0) μ00 z0 z0 (va_up z0 0 (u1.1.2 0)) z0 z0 z0 z0 (fun _ => s2 z0 1 0 2) (wAL k (adr [u1.2.2.2.2.2.1]) z0 (D.1 10) ++ [])) H := vP_perm (pm_beg _ _ _ _ _ _ _ _ _ _ _ _ _ _ _ _ _) hP
  have hD9 : va_D A (wLaw k (adr [q2]) gM (adr [u1.2.2.2.2.1, u1.2.2.2.2.2.2]) u1.2.1.1 u1.1.1.1 u1.2.1.2 u1.2.2.1.1 u1.2.2.1.2 u1.2.2.2.1.1 u1.2.2.2.1.2 (adr [u1.2.2.2.2.2.1]) u1.1.1.2 (fun _ => 0) (fun _ => 0) μ00 z0 z0 (va_up z0 0 (u1.1.2 0)) z0 z0 z0 z0 (fun _ => s2 z0 1 0 2) (wAL k (adr [u1.2.2.2.2.2.1]) z0 (D.1 10) ++ [])) := vD_perm (pm_beg _ _ _ _ _ _ _ _ _ _ _ _ _ _ _ _ _) hD
  refine lw_loop (gQ := adr [q2]) (gM := gM) (gX := adr [u1.2.2.2.2.1, u1.2.2.2.2.2.2]) (gB := u1.2.1.1) (gT := u1.1.1.1) (gK := u1.2.1.2) (gL := u1.2.2.1.1) (gU := u1.2.2.1.2) (gP := u1.2.2.2.1.1) (gR := u1.2.2.2.1.2) (gA := (adr [u1.2.2.2.2.2.1])) (go := u1.1.1.2) Z hlt 100001 (by omega) kE 512 0 A00 0 H locs ls _ _ (by omega) (by omega) ⟨fun _ => 0, fun _ => 0, μ00, z0, z0, va_up z0 0 (u1.1.2 0), z0, z0, z0, z0, z0, fun _ => s2 z0 1 0 2, D.1 10, [], ok_00, cl_00 hf9, mo_00, rs_00, rfl, Or.inl ⟨rfl, rfl, rfl⟩, hP9, hD9, hS⟩ (by omega) (Nat.le_of_ble_eq_true rfl) (Nat.le_of_ble_eq_true rfl) (lv_sub hl [4, 3, 2, 1, 0] rfl)
