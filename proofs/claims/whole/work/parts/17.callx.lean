/-! calls of methods that may throw: static, virtual; where the callee's cells lie -/
/-- what the caller holds behind the call -/
def Jn (D : va_G) (A : Nat → Prop) (H : Heap) (wc : va_W) {S : Type} (wf wn : S → va_W) : Prop :=
  (∀ q, va_A wc H.size q → A q) ∧ va_P D CL wc H ∧ va_D A wc ∧ ∀ (u : S) (H1 : Heap), (∀ z : Nat, z < H.size → ¬ va_A wc H.size z → H1[z]? = H[z]?) → va_P D CL (wf u) H1 → va_D (va_A wc H.size) (wf u) → va_P D CL (wn u) H1 ∧ va_D A (wn u)
theorem Jn.part {D : va_G} {A : Nat → Prop} {H H0 : Heap} {locs : List Loc} {ws wc wr : va_W} {S : Type} {wf wn : S → va_W} (hP : va_P D CL ws H) (hD : va_D A ws) (hS : va_S A H0 H locs) (hA : ∀ q, H0.size ≤ q → A q) (isC isR perm : List Nat) (hC : isC.map (fun i => ws[i]?) = wc.map some) (hc : va_nd isC = true) (hR : isR.map (fun i => ws[i]?) = wr.map some) (hn : va_nd isR = true) (hdis : ∀ i ∈ isR, i ∉ isC) (hw : ∀ u, perm.map (fun i => (wr ++ wf u)[i]?) = (wn u).map some) (hnp : va_nd perm = true) : Jn D A H wc wf wn := by
  have hF := va_free (wc := wc) hD hS hA isC hC
  refine ⟨hF, hP.sub isC (fm_of hC), hD.sub isC hc hC, fun u H1 hk hP1 hD1 => ?_⟩
  obtain ⟨hP2, hD2⟩ := va_join hP hD isC isR hC hR hn hdis hk hF hP1 hD1
  exact ⟨hP2.sub perm (fm_of (hw u)), hD2.sub perm hnp (hw u)⟩
theorem Jn.same {D : va_G} {A : Nat → Prop} {H H0 : Heap} {locs : List Loc} {ws : va_W} {S : Type} {wf : S → va_W} (hP : va_P D CL ws H) (hD : va_D A ws) (hS : va_S A H0 H locs) (hA : ∀ q, H0.size ≤ q → A q) : Jn D A H ws wf wf := by
  have hF := free_self hD hS hA
  exact ⟨hF, hP, hD, fun u H1 _ hP1 hD1 => ⟨hP1, hD1.weaken (fun _ q _ h => hF q.1 h)⟩⟩
theorem Jn.none {D : va_G} {A : Nat → Prop} {H H0 : Heap} {locs : List Loc} {ws : va_W} {S : Type} {wf : S → va_W} (hP : va_P D CL ws H) (hD : va_D A ws) (hS : va_S A H0 H locs) (hA : ∀ q, H0.size ≤ q → A q) : Jn D A H [] wf (fun _ : S => ws) := by
  refine ⟨fun q h => ?_, nilP, nilD, fun u H1 hk _ _ => ⟨fun i q hi => (hP i q hi).kept (hk q.1 (hP i q hi).lt (fun h => ?_)), hD⟩⟩
  · rcases h with ⟨i, e, h⟩ | h
    · simp at h
    · exact hA q (Nat.le_trans hS.1 h)
  · rcases h with ⟨j, e, h⟩ | h
    · simp at h
    · exact absurd (hP i q hi).lt (Nat.not_lt.mpr h)
section XV
variable {p : Program} {l : Launch} {e : Env} {R : Room} {s : State} {m : MethodId} {args : Array Value} {below : List Frame} {meth : Method} {c : Code} {H : Heap} {locs : List Loc} {cells slots : Nat} {Q : State → Prop} {cc : ByteArray} {nL pc : Nat} {ls : Array Slot} {D : va_G} {k : Nat → ClassId} {own : String} {ret : Option FieldType} {A : Nat → Prop} {wc : va_W} {S : Type} {wf wn : S → va_W} {post : Option Value → S → Prop} {xp : String → S → Prop} {rest As : List Value} {y : MethodName} {b2 : ByteArray} {n2 np index q : Nat} {ret2 : Option FieldType} {rm : Room} {C2 : String}
theorem preX {T U : State} {av : List Value} (hK : va_K D CL (TY k) s) (hX : Xf D A s s.heap) (hS : va_S A s.heap H locs) (hJ : Jn D A H wc wf wn) (hU : U.heap = H) (hW : s.WarmedH U.vm) : va_Pc av (xPre D k wc H.size) av.toArray U := by
  obtain ⟨hF, hP, hD, -⟩ := hJ
  exact ⟨rfl, ⟨by rw [hU], by rw [hU]; exact hP, va_K.moved hW.alike hK, hD.weaken (fun _ _ _ _ => trivial)⟩, by rw [hU]; exact hX.step hW hS.1 hS.2.1 hF⟩
theorem behind {L : List Loc} {H1 : Heap} (hS : va_S A s.heap H locs) (hF : ∀ q, va_A wc H.size q → A q) (hz : H.size ≤ H1.size) (hk : ∀ z : Nat, z < H.size → ¬ va_A wc H.size z → H1[z]? = H[z]?) (hL : ∀ z ∈ L, va_A wc H.size z.base) : va_S A s.heap H1 (locs ++ L) :=
  ⟨Nat.le_trans hS.1 hz, fun z z1 z2 => (hk z (Nat.lt_of_lt_of_le z1 hS.1) (fun h => z2 (hF z h))).trans (hS.2.1 z z1 z2), fun z hz => (List.mem_append.mp hz).elim (hS.2.2 z) (fun h => hF _ (hL z h))⟩
/-- invokestatic of a method that may throw -/
theorem callXS (C : Cx p s m args meth c D k own cc nL ret A) (hX : Xf D A s s.heap) (hS : va_S A s.heap H locs) (hJ : Jn D A H wc wf wn) (hM : CX l D k y b2 n2 ret2 rm As wc wf post xp)
    (w1 : Cond.methodLink own index y ∈ gw_T) (w2 : Cond.static y ∈ gw_T) (w4 : Cond.initialized y.cls ∈ gw_T) (w5 : Cond.code y b2 n2 ret2 ∈ gw_T)
    (hd : y.cls ≠ "java/lang/invoke/MethodHandle" ∧ y.cls ≠ "java/lang/invoke/VarHandle" ∧ (parseMethodDescriptor y.desc).map (fun d => d.parameters.length) = some np) (hnp : As.length = np)
    (hR : rm.frames + 1 ≤ R.frames ∧ 8 + (n2 + 11) + rm.locals ≤ R.locals) (hcs : cells + rm.cells ≤ R.cells ∧ slots + rm.slots ≤ R.slots) (hls : ls.size = nL) (hrest : (rest.map fun v => v.category).sum ≤ 8) (hdg : decode cc pc = .ok (.invokestatic index, 3))
    (kr : ∀ (v : Option Value) (u : S) (H : Heap) (locs : List Loc), post v u → va_P D CL (wn u) H → va_D A (wn u) → va_S A s.heap H locs → W p l e R s m args below meth c H locs (cells + rm.cells) (slots + rm.slots) Q (F0 m (pc + 3) ls (v.toList ++ rest)))
    (kx : ∀ (q : Addr) (E : String) (u : S) (ce : Cell) (H : Heap) (locs : List Loc), xp E u → va_P D CL (wn u) H → va_D A (wn u) → va_S A s.heap H locs → H[q]? = some ce → ce.vm = .none → s.vm.findClass E = some ce.cls → WX p l e R s m args below meth c H locs (cells + rm.cells) (slots + rm.slots) Q (F0 m pc ls rest) q) :
    W p l e R s m args below meth c H locs cells slots Q (F0 m pc ls (As.reverse ++ rest)) := by
  obtain ⟨hx, hb, hr, hlk, hml, hown, hts, hK, hA⟩ := id C
  intro T hT X
  obtain ⟨mk, hnamed⟩ := Cond.code_named (hts _ w5)
  obtain ⟨methM, cM, hmethM, -, -, -, -, -, -, hsigM⟩ := Cond.code_spec hnamed (hts _ w5)
  have hstatic : methM.isStatic = true := Cond.static_spec hnamed hmethM (hts _ w2)
  obtain ⟨kP, hkP, -⟩ := className_of_methodNamed hnamed
  have hinitP : kP.init = .initialized := Cond.initialized_spec (findClass_of_methodNamed hnamed) hkP (hts _ w4)
  have hlen : As.length = methM.sig.parameters.length := by
    have h2 := hd.2.2
    rw [hsigM] at h2
    exact hnp.trans (Option.some.inj h2).symm
  obtain ⟨vm₁, X₁, st⟩ := X.invokestatic hx hown (hts _ w1) hnamed hmethM hstatic hkP hinitP ⟨hd.1, hd.2.1⟩ (g := F0 m pc ls (As.reverse ++ rest)) rfl (argsL := As) (rest := rest) hlen rfl (by rw [hb]; exact hdg)
  have hF := hJ.1
  rcases coreX X₁ hT hts (g := F0 m pc ls rest) rfl (hls.trans hml.symm) (by rw [hb]; exact hdg) (lv_room hrest) (X₁.named hnamed) (hM H.size) w4 w5 hR hcs (preX (T := T) hK hX hS hJ hT X₁.warmed) with ⟨v, u, L, T', X', hpo, hP1, hD1, hz, hk, hL, hst⟩ | ⟨q, E, u, ce, L, T', X', hpo, hP1, hD1, hz, hk, hL, hce, hcv, hcl, hst⟩
  · obtain ⟨hP2, hD2⟩ := hJ.2.2.2 u _ hk hP1 hD1
    obtain ⟨t, a1, b1⟩ := kr v u _ _ hpo hP2 hD2 (behind hS hF hz hk hL) T' rfl X'
    exact ⟨t, st t (fun acts => by rw [doInvoke_state]; exact hst.trans a1), b1⟩
  · obtain ⟨hP2, hD2⟩ := hJ.2.2.2 u _ hk hP1 hD1
    obtain ⟨t, a1, b1⟩ := kx q E u ce _ _ hpo hP2 hD2 (behind hS hF hz hk hL) hce hcv hcl T' rfl X'
    exact ⟨t, st t (fun acts => by rw [doInvoke_state]; exact hst.trans a1), b1⟩
/-- invokevirtual of a method that may throw, by its own name -/
theorem callXV (C : Cx p s m args meth c D k own cc nL ret A) (hX : Xf D A s s.heap) (hS : va_S A s.heap H locs) (hJ : Jn D A H wc wf wn) (hM : CX l D k y b2 n2 ret2 rm (.ref q :: As) wc wf post xp)
    (w1 : Cond.methodLink own index y ∈ gw_T) (w2 : Cond.instanceMethod y ∈ gw_T) (w3 : Cond.selects C2 y y ∈ gw_T) (w4 : Cond.initialized C2 ∈ gw_T) (w5 : Cond.code y b2 n2 ret2 ∈ gw_T)
    (hd : y.cls = C2 ∧ y.cls ≠ "java/lang/invoke/MethodHandle" ∧ y.cls ≠ "java/lang/invoke/VarHandle" ∧ (parseMethodDescriptor y.desc).map (fun d => d.parameters.length) = some np)
    (q0 : Nat) {ci : Nat} {fs : List Value} {r : vw_C} (hq : wc[q0]? = some (q, .inr (ci, fs))) (hci : CL[ci]? = some r) (hrC : r.1 = C2) (hnp : As.length = np)
    (hR : rm.frames + 1 ≤ R.frames ∧ 8 + (n2 + 11) + rm.locals ≤ R.locals) (hcs : cells + rm.cells ≤ R.cells ∧ slots + rm.slots ≤ R.slots) (hls : ls.size = nL) (hrest : (rest.map fun v => v.category).sum ≤ 8) (hdg : decode cc pc = .ok (.invokevirtual index, 3))
    (kr : ∀ (v : Option Value) (u : S) (H : Heap) (locs : List Loc), post v u → va_P D CL (wn u) H → va_D A (wn u) → va_S A s.heap H locs → W p l e R s m args below meth c H locs (cells + rm.cells) (slots + rm.slots) Q (F0 m (pc + 3) ls (v.toList ++ rest)))
    (kx : ∀ (q : Addr) (E : String) (u : S) (ce : Cell) (H : Heap) (locs : List Loc), xp E u → va_P D CL (wn u) H → va_D A (wn u) → va_S A s.heap H locs → H[q]? = some ce → ce.vm = .none → s.vm.findClass E = some ce.cls → WX p l e R s m args below meth c H locs (cells + rm.cells) (slots + rm.slots) Q (F0 m pc ls rest) q) :
    W p l e R s m args below meth c H locs cells slots Q (F0 m pc ls (As.reverse ++ .ref q :: rest)) := by
  obtain ⟨hx, hb, hr, hlk, hml, hown, hts, hK, hA⟩ := id C
  obtain ⟨hdC, hdH, hdV, hdn⟩ := hd
  intro T hT X
  obtain ⟨mk, methM, hnamed, hmethM, hstM, habM⟩ := Cond.instanceMethod_spec (hts _ w2)
  obtain ⟨methM', cM, hmethM', -, -, -, -, -, -, hsigM⟩ := Cond.code_spec hnamed (hts _ w5)
  cases hmethM.symm.trans hmethM'
  obtain ⟨cellB, hcB, hoB, hclB⟩ := va_recv hK hJ.2.1 hci hq
  rw [hrC] at hclB
  obtain ⟨c2, r2, m2, q1, q2, q3, q4, kP, hkP, hkPi⟩ := Cond.selects_spec (hts _ w3)
  cases hclB.symm.trans q1
  cases (State.methodFound?_of_named hnamed ⟨hdH, hdV⟩).symm.trans q2
  cases hnamed.symm.trans q3
  have hselP : selectMethod e.platform s.vm cellB.cls mk = .method mk := by rw [Launch.admits_selectMethod X.admits]; exact q4
  have hlen : As.length = methM.sig.parameters.length := by
    rw [hsigM] at hdn
    exact hnp.trans (Option.some.inj hdn).symm
  obtain ⟨vm₁, X₁, st⟩ := X.invokevirtual hx hown (hts _ w1) hnamed hmethM hstM hkP hkPi ⟨hdH, hdV⟩ (a := q) (cell := cellB) (by rw [hT]; exact hcB) (fun z h => by rw [h] at hoB; cases hoB) hselP hmethM habM hkP hkPi (g := F0 m pc ls (As.reverse ++ .ref q :: rest)) rfl (argsL := As) (rest := rest) hlen rfl (by rw [hb]; exact hdg)
  have hF := hJ.1
  rcases coreX X₁ hT hts (g := F0 m pc ls rest) rfl (hls.trans hml.symm) (by rw [hb]; exact hdg) (lv_room hrest) (X₁.named hnamed) (hM H.size) (by rw [hdC]; exact w4) w5 hR hcs (preX (T := T) hK hX hS hJ hT X₁.warmed) with ⟨v, u, L, T', X', hpo, hP1, hD1, hz, hk, hL, hst⟩ | ⟨q, E, u, ce, L, T', X', hpo, hP1, hD1, hz, hk, hL, hce, hcv, hcl, hst⟩
  · obtain ⟨hP2, hD2⟩ := hJ.2.2.2 u _ hk hP1 hD1
    obtain ⟨t, a1, b1⟩ := kr v u _ _ hpo hP2 hD2 (behind hS hF hz hk hL) T' rfl X'
    exact ⟨t, st t (fun acts => by rw [doInvoke_state]; exact hst.trans a1), b1⟩
  · obtain ⟨hP2, hD2⟩ := hJ.2.2.2 u _ hk hP1 hD1
    obtain ⟨t, a1, b1⟩ := kx q E u ce _ _ hpo hP2 hD2 (behind hS hF hz hk hL) hce hcv hcl T' rfl X'
    exact ⟨t, st t (fun acts => by rw [doInvoke_state]; exact hst.trans a1), b1⟩
end XV
