/-! the start: words that hold wherever only new cells have changed; the classes; the tables (by program) -/
section XS
variable {s V : State} {args a : Array Value}
theorem xw_lays (hW : s.WarmedH V.vm) (hk : ∀ q, q < s.heap.size → V.heap[q]? = s.heap[q]?) {O f d : String} (h : (Cond.laysStatic O f d).before args s = true) : (Cond.laysStatic O f d).before a V = true := by
  obtain ⟨c, k, i, fd, ad, cell, hc, hi, hst, ha, hcell, hs, hcls, hlt, hty⟩ := Cond.laysStatic_spec (Cond.laysStatic_setVm hW.alike h)
  have hcell2 : s.heap[ad]? = some cell := hcell
  have hl := (Array.getElem?_eq_some_iff.mp hcell2).1
  exact Cond.laysStatic_of (s := V) hc hi hst ha ((hk ad hl).trans hcell2) hs hcls hlt hty
theorem xw_isRef (hW : s.WarmedH V.vm) (hk : ∀ q, q < s.heap.size → V.heap[q]? = s.heap[q]?) {C n d : String} (hl : (Cond.laysStatic C n d).before args s = true) (hini : (Cond.initialized C).before args s = true) (h : (Cond.isRef (.static C n d)).before args s = true) : (Cond.isRef (.static C n d)).before a V = true := by
  have z := va_Zqof (A := fun q => s.heap.size ≤ q) hl hini h (fun a ha => Nat.not_le.mpr ha)
  have z2 := va_Zq.moved (U := V) hW.alike (va_Zq.kept (H1 := V.heap) z (fun a ha _ => hk a ha))
  rcases z2 with ⟨cf, kf, fi, f, ad, cell, h1, h2, h3, h4, h5, h6, h7, -⟩ | ⟨t, cf, kf, fi, f, ad, cell, h1, h2, h3, h4, h5, h6, h7, -⟩
  · have he : (Term.static C n d).eval a V none [] V = some .null := by simp [Term.eval, State.fieldNamed?, h1, h2, h4, h5, h6, h7]
    simp only [Cond.before, Cond.holds, Cond.value, he]
    rfl
  · have he : (Term.static C n d).eval a V none [] V = some (.ref t) := by simp [Term.eval, State.fieldNamed?, h1, h2, h4, h5, h6, h7]
    simp only [Cond.before, Cond.holds, Cond.value, he]
    rfl
theorem xw_cast (hW : s.WarmedH V.vm) {C T : String} (h : (Cond.castable C T).before args s = true) : (Cond.castable C T).before a V = true := va_Nw.use rfl (va_Nw.warmC hW (va_Nw.of rfl h))
theorem xw_decl (hW : s.WarmedH V.vm) {x : MethodName} (h : (Cond.declares x).before args s = true) : (Cond.declares x).before a V = true := va_Nw.use rfl (va_Nw.warmD hW (va_Nw.of rfl h))
theorem xw_nest (hW : s.WarmedH V.vm) {o : String} {i : Nat} {x : MethodName} {h2 : String} (h : (Cond.methodLinkNest o i x h2).before args s = true) : (Cond.methodLinkNest o i x h2).before a V = true := va_Nw.use rfl (va_Nw.warmM hW (va_Nw.of rfl h))
theorem xw_over (hW : s.WarmedH V.vm) {C : String} (h : (Cond.arrayOver (.object C)).before args s = true) : (Cond.arrayOver (.object C)).before a V = true := va_AO.use (va_AO.moved hW.alike (va_AO.of h))
theorem xw_str (hW : s.WarmedH V.vm) {own tx : String} {k : Nat} (h : (Cond.stringRef own k tx).before args s = true) : (Cond.stringRef own k tx).before a V = true := by
  have h1 := Cond.stringRef_warmed hW h
  first
    | exact va_tabs rfl rfl h1
    | (simp only [Cond.before, Cond.holds, Cond.value, State.names, State.poolOf?, State.resolvedAt?] at h1 ⊢; exact h1)
theorem xw_nc (hW : s.WarmedH V.vm) {C T : String} (h : (Cond.not (.castable C T)).before args s = true) : (Cond.not (.castable C T)).before a V = true := by
  obtain ⟨c, t, h1, h2, h3⟩ := va_Nc.moved (U := V) hW.alike (va_Nc.of h)
  simp [Cond.before, Cond.holds, Cond.value, h1, h2, h3]
end XS
theorem tb_1 {w : Cond} (i : Nat) (h : tables_1_1[i]? = some w) : w ∈ lw_tbl := List.mem_append_right _ (List.mem_append_left _ (List.mem_of_getElem? h))
theorem tb_2 {w : Cond} (i : Nat) (h : tables_1_2[i]? = some w) : w ∈ lw_tbl := List.mem_append_right _ (List.mem_append_right _ (List.mem_append_left _ (List.mem_of_getElem? h)))
theorem tb_3 {w : Cond} (i : Nat) (h : tables_1_3[i]? = some w) : w ∈ lw_tbl := List.mem_append_right _ (List.mem_append_right _ (List.mem_append_right _ (List.mem_append_left _ (List.mem_of_getElem? h))))
theorem tb_4 {w : Cond} (i : Nat) (h : tables_1_4[i]? = some w) : w ∈ lw_tbl := List.mem_append_right _ (List.mem_append_right _ (List.mem_append_right _ (List.mem_append_right _ (List.mem_append_left _ (List.mem_of_getElem? h)))))
theorem tb_5 {w : Cond} (i : Nat) (h : tables_1_5[i]? = some w) : w ∈ lw_tbl := List.mem_append_right _ (List.mem_append_right _ (List.mem_append_right _ (List.mem_append_right _ (List.mem_append_right _ (List.mem_of_getElem? h)))))
set_option maxRecDepth 100000 in
set_option maxHeartbeats 4000000 in
theorem xf_start {s : State} {args : Array Value} (hts : ∀ w ∈ lw_tbl, w.before args s = true) (hgv : (Jvm.Cond.and given_1 narrow_1).before args s = true) : Xf0 (fun q => s.heap.size ≤ q) s s.heap := by
  intro V a hW hk w hw
  have hk2 : ∀ q, q < s.heap.size → V.heap[q]? = s.heap[q]? := fun q hq => hk q hq (Nat.not_le.mpr hq)
  have hg := flat_of_before _ hgv
  have all : ∀ w ∈ xW, w.before a V = true := List.forall_mem_cons.mpr ⟨xw_isRef hW hk2 (hts _ (tb_2 69 rfl)) (hts _ (tb_1 13 rfl)) (hg _ (by decide +kernel)), List.forall_mem_cons.mpr ⟨xw_isRef hW hk2 (hts _ (tb_2 71 rfl)) (hts _ (tb_1 13 rfl)) (hg _ (by decide +kernel)), List.forall_mem_cons.mpr ⟨xw_over hW (hts _ (tb_1 41 rfl)), List.forall_mem_cons.mpr ⟨xw_nest hW (hts _ (tb_1 46 rfl)), List.forall_mem_cons.mpr ⟨xw_nest hW (hts _ (tb_1 97 rfl)), List.forall_mem_cons.mpr ⟨xw_nest hW (hts _ (tb_1 117 rfl)), List.forall_mem_cons.mpr ⟨xw_nest hW (hts _ (tb_1 123 rfl)), List.forall_mem_cons.mpr ⟨xw_nest hW (hts _ (tb_1 179 rfl)), List.forall_mem_cons.mpr ⟨xw_lays hW hk2 (hts _ (tb_1 223 rfl)), List.forall_mem_cons.mpr ⟨xw_cast hW (hts _ (tb_2 44 rfl)), List.forall_mem_cons.mpr ⟨xw_decl hW (hts _ (tb_2 45 rfl)), List.forall_mem_cons.mpr ⟨xw_decl hW (hts _ (tb_2 46 rfl)), List.forall_mem_cons.mpr ⟨xw_decl hW (hts _ (tb_2 47 rfl)), List.forall_mem_cons.mpr ⟨xw_decl hW (hts _ (tb_2 48 rfl)), List.forall_mem_cons.mpr ⟨xw_decl hW (hts _ (tb_2 49 rfl)), List.forall_mem_cons.mpr ⟨xw_decl hW (hts _ (tb_2 50 rfl)), List.forall_mem_cons.mpr ⟨xw_lays hW hk2 (hts _ (tb_2 69 rfl)), List.forall_mem_cons.mpr ⟨xw_lays hW hk2 (hts _ (tb_2 71 rfl)), List.forall_mem_cons.mpr ⟨xw_str hW (hts _ (tb_2 84 rfl)), List.forall_mem_cons.mpr ⟨xw_lays hW hk2 (hts _ (tb_2 113 rfl)), List.forall_mem_cons.mpr ⟨xw_cast hW (hts _ (tb_2 120 rfl)), List.forall_mem_cons.mpr ⟨xw_str hW (hts _ (tb_2 127 rfl)), List.forall_mem_cons.mpr ⟨xw_cast hW (hts _ (tb_2 173 rfl)), List.forall_mem_cons.mpr ⟨xw_str hW (hts _ (tb_2 180 rfl)), List.forall_mem_cons.mpr ⟨xw_str hW (hts _ (tb_2 219 rfl)), List.forall_mem_cons.mpr ⟨xw_cast hW (hts _ (tb_2 233 rfl)), List.forall_mem_cons.mpr ⟨xw_str hW (hts _ (tb_3 0 rfl)), List.forall_mem_cons.mpr ⟨xw_str hW (hts _ (tb_3 209 rfl)), List.forall_mem_cons.mpr ⟨xw_str hW (hts _ (tb_3 214 rfl)), List.forall_mem_cons.mpr ⟨xw_nest hW (hts _ (tb_3 222 rfl)), List.forall_mem_cons.mpr ⟨xw_over hW (hts _ (tb_4 77 rfl)), List.forall_mem_cons.mpr ⟨xw_str hW (hts _ (tb_4 108 rfl)), List.forall_mem_cons.mpr ⟨xw_cast hW (hts _ (tb_5 192 rfl)), List.forall_mem_cons.mpr ⟨xw_decl hW (hts _ (tb_5 195 rfl)), List.forall_mem_cons.mpr ⟨xw_cast hW (hts _ (tb_5 196 rfl)), List.forall_mem_cons.mpr ⟨xw_cast hW (hts _ (tb_5 197 rfl)), List.forall_mem_cons.mpr ⟨xw_cast hW (hts _ (tb_5 198 rfl)), List.forall_mem_cons.mpr ⟨xw_cast hW (hts _ (tb_5 199 rfl)), List.forall_mem_cons.mpr ⟨xw_cast hW (hts _ (tb_5 200 rfl)), List.forall_mem_cons.mpr ⟨xw_cast hW (hts _ (tb_5 201 rfl)), List.forall_mem_cons.mpr ⟨xw_cast hW (hts _ (tb_5 202 rfl)), List.forall_mem_cons.mpr ⟨xw_cast hW (hts _ (tb_5 203 rfl)), List.forall_mem_cons.mpr ⟨xw_cast hW (hts _ (tb_5 204 rfl)), List.forall_mem_cons.mpr ⟨xw_cast hW (hts _ (tb_5 205 rfl)), List.forall_mem_cons.mpr ⟨xw_nc hW (hg _ (by decide +kernel)), List.forall_mem_cons.mpr ⟨xw_nc hW (hg _ (by decide +kernel)), List.forall_mem_cons.mpr ⟨xw_nc hW (hg _ (by decide +kernel)), List.forall_mem_cons.mpr ⟨xw_nc hW (hg _ (by decide +kernel)), List.forall_mem_cons.mpr ⟨xw_nc hW (hg _ (by decide +kernel)), List.forall_mem_cons.mpr ⟨xw_nc hW (hg _ (by decide +kernel)), List.forall_mem_cons.mpr ⟨xw_nc hW (hg _ (by decide +kernel)), (fun _ h => absurd h List.not_mem_nil)⟩⟩⟩⟩⟩⟩⟩⟩⟩⟩⟩⟩⟩⟩⟩⟩⟩⟩⟩⟩⟩⟩⟩⟩⟩⟩⟩⟩⟩⟩⟩⟩⟩⟩⟩⟩⟩⟩⟩⟩⟩⟩⟩⟩⟩⟩⟩⟩⟩⟩⟩
  exact all w hw
set_option maxRecDepth 100000 in
set_option maxHeartbeats 4000000 in
theorem pf_start {s : State} {args : Array Value} (hts : ∀ w ∈ lw_tbl, w.before args s = true) (hgv : (Jvm.Cond.and given_1 narrow_1).before args s = true) : ∃ d10 d11 : Nat, ∀ D : va_G, D.1 10 = d10 → D.1 11 = d11 → Pf D (fun q => s.heap.size ≤ q) s s.heap := by
  have hg := flat_of_before _ hgv
  have hA : ∀ a : Nat, a < s.heap.size → ¬ (fun q => s.heap.size ≤ q) a := fun a ha => Nat.not_le.mpr ha
  obtain ⟨t, ht, hT⟩ := va_Tof (tm := .static "PromotionTill" "PERCENTS" "[I") (ty := .int) (N := 4) (f := fun j => .int (pcv j)) (by decide) (hg _ (by decide +kernel)) (va_eqt (z := 4) (hg _ (by decide +kernel))) (fun j hj => by
    match j, hj with
    | 0, _ => exact va_eqt (z := 0) (hg _ (by decide +kernel))
    | 1, _ => exact va_eqt (z := 7) (hg _ (by decide +kernel))
    | 2, _ => exact va_eqt (z := 19) (hg _ (by decide +kernel))
    | 3, _ => exact va_eqt (z := 25) (hg _ (by decide +kernel))
    | n + 4, h => exact absurd h (by omega)) hA
  obtain ⟨t2, ht2, hT2⟩ := va_Tof (tm := .static "java/util/ArrayList" "DEFAULTCAPACITY_EMPTY_ELEMENTDATA" "[Ljava/lang/Object;") (ty := .object "java/lang/Object") (N := 0) (f := fun _ => .null) (by decide) (hg _ (by decide +kernel)) (va_eqt (z := 0) (hg _ (by decide +kernel))) (fun j hj => absurd hj (Nat.not_lt_zero j)) hA
  obtain ⟨mi, hmi⟩ := va_Mi.of (C := "[Ljava/lang/Object;") (s := s) (args := args) (hg _ (by decide +kernel))
  refine ⟨t2, mi, fun D e1 e2 => ⟨t, va_Zref (hts _ (tb_2 113 rfl)) (hts _ (tb_1 1 rfl)) ht hA, hT, ?_, ?_, ?_⟩⟩
  · rw [e1]; exact va_Zref (hts _ (tb_1 223 rfl)) (hts _ (tb_1 11 rfl)) ht2 hA
  · rw [e1]; exact hT2
  · rw [e2]; exact hmi
set_option maxRecDepth 100000 in
set_option maxHeartbeats 4000000 in
theorem k_start {s : State} {args : Array Value} (hts : ∀ w ∈ gw_T, w.before args s = true) (hq3 : (Cond.arrayOver (.object "PromotionTill$Offer")).before args s = true) (hq4 : (Cond.arrayOver (.object "java/lang/Object")).before args s = true) (d10 d11 : Nat) : ∃ (D : va_G) (k : Nat → ClassId), va_K D CL (TY k) s ∧ D.1 10 = d10 ∧ D.1 11 = d11 := by
  obtain ⟨c0, i0, h0⟩ := u_known hts in_Basket (hts _ (gw_a1 96 rfl rfl))
  obtain ⟨c1, i1, h1⟩ := u_known hts in_Offer (hts _ (gw_a1 45 rfl rfl))
  obtain ⟨c2, i2, h2⟩ := u_known hts in_Plan (hts _ (gw_a1 178 rfl rfl))
  obtain ⟨c3, i3, h3⟩ := u_known hts in_Planner (hts _ (gw_a1 116 rfl rfl))
  obtain ⟨c4, i4, h4⟩ := u_known hts in_Rec (hts _ (gw_a3 216 rfl rfl))
  obtain ⟨c5, i5, h5⟩ := u_known hts in_Tariff (hts _ (gw_a1 35 rfl rfl))
  obtain ⟨c6, i6, h6⟩ := u_known hts in_Uses (hts _ (gw_a1 122 rfl rfl))
  obtain ⟨c7, i7, h7⟩ := u_known hts in_Till (hts _ (gw_a1 27 rfl rfl))
  obtain ⟨c8, i8, h8⟩ := u_known hts in_Model (hts _ (gw_a4 137 rfl rfl))
  obtain ⟨c9, i9, h9⟩ := u_known hts in_AL (hts _ (gw_a1 211 rfl rfl))
  obtain ⟨a0, k0, p0, e0, f0, g0⟩ := Cond.arrayClass_spec (hts _ (gw_a1 80 rfl rfl : Cond.arrayClass FieldType.int ∈ gw_T))
  obtain ⟨a1, k1, p1, e1, f1, g1⟩ := Cond.arrayClass_spec (hts _ (gw_a1 208 rfl rfl : Cond.arrayClass FieldType.boolean ∈ gw_T))
  obtain ⟨a2, k2, p2, e2, f2, g2⟩ := Cond.arrayClass_spec (hts _ (gw_a1 209 rfl rfl : Cond.arrayClass FieldType.long ∈ gw_T))
  obtain ⟨p3, a3, k3, q1, q2, q3, q4, q5⟩ := Cond.arrayOver_spec hq3
  obtain ⟨p4, a4, k4, r1, r2, r3, r4, r5⟩ := Cond.arrayOver_spec hq4
  refine ⟨(fun c => [c0, c1, c2, c3, c4, c5, c6, c7, c8, c9, d10, d11].getD c 0, fun c => [i0, i1, i2, i3, i4, i5, i6, i7, i8, i9].getD c (fun _ => 0)), fun j => [a0, a1, a2, a3, a4].getD j 0, ⟨fun c q hq => ?_, fun j q hq => ?_⟩, rfl, rfl⟩
  · match c, hq with
    | 0, hq => cases hq; exact h0
    | 1, hq => cases hq; exact h1
    | 2, hq => cases hq; exact h2
    | 3, hq => cases hq; exact h3
    | 4, hq => cases hq; exact h4
    | 5, hq => cases hq; exact h5
    | 6, hq => cases hq; exact h6
    | 7, hq => cases hq; exact h7
    | 8, hq => cases hq; exact h8
    | 9, hq => cases hq; exact h9
    | n + 10, hq => cases hq
  · match j, hq with
    | 0, hq => cases hq; exact ⟨fun n z => ⟨fun k h => (by cases h), k0, f0, p0, g0⟩, e0⟩
    | 1, hq => cases hq; exact ⟨fun n z => ⟨fun k h => (by cases h), k1, f1, p1, g1⟩, e1⟩
    | 2, hq => cases hq; exact ⟨fun n z => ⟨fun k h => (by cases h), k2, f2, p2, g2⟩, e2⟩
    | 3, hq => cases hq; exact ⟨fun n z => ⟨fun k h => (by cases h), k3, q3, p3, q4⟩, k3, p3, q3, q4, q1, q5⟩
    | 4, hq => cases hq; exact ⟨fun n z => ⟨fun k h => (by cases h), k4, r3, p4, r4⟩, k4, p4, r3, r4, r1, r5⟩
    | n + 5, hq => cases hq
theorem start_all {s : State} {args : Array Value} (hts : ∀ w ∈ lw_tbl, w.before args s = true) (hgv : (Jvm.Cond.and given_1 narrow_1).before args s = true) : ∃ (D : va_G) (k : Nat → ClassId), va_K D CL (TY k) s ∧ Xf D (fun q => s.heap.size ≤ q) s s.heap := by
  obtain ⟨d10, d11, hp⟩ := pf_start hts hgv
  obtain ⟨D, k, hK, e1, e2⟩ := k_start (gw_tbl hts) (hts _ (tb_1 41 rfl)) (hts _ (tb_4 77 rfl)) d10 d11
  exact ⟨D, k, hK, xf_start hts hgv, hp D e1 e2⟩
