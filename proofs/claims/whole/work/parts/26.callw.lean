/-! the call of a method with a table of its own -/
section XU9
variable {p : Program} {l : Launch} {e : Env} {R : Room} {s : State} {m : MethodId} {args : Array Value} {below : List Frame} {meth : Method} {c : Code} {H : Heap} {locs : List Loc} {cells slots : Nat} {Q : State → Prop} {cc : ByteArray} {nL pc : Nat} {ls : Array Slot} {D : va_G} {k : Nat → ClassId} {own : String} {ret : Option FieldType} {A : Nat → Prop} {ws wc wr : va_W} {S S2 : Type} {wf : S → va_W} {post : Option Value → S → Prop} {xp : String → S → Prop} {rest As : List Value} {y : MethodName} {b2 : ByteArray} {n2 np index q : Nat} {ret2 : Option FieldType} {rm : Room} {C2 : String} {hh : List (Nat × Nat × Nat × Nat)}
/-- the callee's run, seen from the caller's frame -/
theorem coreW {T : State} {g : JFrame} {ig : Instr} {mk : MethodId} {a : Array Value} (X : Stand p l e R s m args below meth c T locs cells slots) (hT : T.heap = H) (hts : ∀ w ∈ gw_T, w.before args s = true)
    (hg : g.method = m) (hsize : g.locals.size = c.maxLocals) (hdg : decode c.code g.pc = .ok (ig, 3)) (hW8 : 2 * g.monitorRoom + (g.stack.map fun v => v.category).sum ≤ 8) (hn : T.methodNamed? y = some mk)
    (hM : MetFree l y (headSpec (.codeWith y b2 n2 ret2 hh :: gw_T) rm) (va_Pc As (xPre D k wc H.size)) (fun _ _ _ _ _ => True) (fun _ st o t => QXr D (va_A wc H.size) wf post xp rm.cells rm.slots st o t))
    (w4 : Cond.initialized y.cls ∈ gw_T) (w5 : Cond.codeWith y b2 n2 ret2 hh ∈ gw_T) (hR : rm.frames + 1 ≤ R.frames ∧ 8 + (n2 + 11) + rm.locals ≤ R.locals) (hcs : cells + rm.cells ≤ R.cells ∧ slots + rm.slots ≤ R.slots) (hPa : va_Pc As (xPre D k wc H.size) a (T.calling g mk a)) :
    (∃ (v : Option Value) (u : S) (L : List Loc) (T' : State), Stand p l e R s m args below meth c T' (locs ++ L) (cells + rm.cells) (slots + rm.slots) ∧ post v u ∧ va_P D CL (wf u) T'.heap ∧ va_D (va_A wc H.size) (wf u) ∧ H.size ≤ T'.heap.size ∧ (∀ z : Nat, z < H.size → ¬ va_A wc H.size z → T'.heap[z]? = H[z]?) ∧ (∀ z ∈ L, va_A wc H.size z.base) ∧
      Steps p.tables e below (doInvoke e (T.setTop g) [] mk a).1 (T'.setTop { g with pc := g.pc + 3, stack := v.toList ++ g.stack })) ∨
    (∃ (q : Addr) (E : String) (u : S) (ce : Cell) (L : List Loc) (T' : State), Stand p l e R s m args below meth c T' (locs ++ L) (cells + rm.cells) (slots + rm.slots) ∧ xp E u ∧ va_P D CL (wf u) T'.heap ∧ va_D (va_A wc H.size) (wf u) ∧ H.size ≤ T'.heap.size ∧ (∀ z : Nat, z < H.size → ¬ va_A wc H.size z → T'.heap[z]? = H[z]?) ∧ (∀ z ∈ L, va_A wc H.size z.base) ∧
      T'.heap[q]? = some ce ∧ ce.vm = .none ∧ s.vm.findClass E = some ce.cls ∧ Steps p.tables e below (doInvoke e (T.setTop g) [] mk a).1 ((T'.setTop g).pushFrame (.throwing q))) := by
  have htop := X.here.top
  have hgw : ∀ w ∈ gw_T, ∀ a', w.before a' T = true := fun w hw a' => pay_in hts (gw_good (fun _ h => h)) w hw a' T X.warmed
  have hws : ∀ w ∈ (Cond.codeWith y b2 n2 ret2 hh :: gw_T), w.before a T = true := fun w hw => (List.mem_cons.mp hw).elim (fun e => by rw [e]; exact hgw _ w5 a) (fun h => hgw w h a)
  obtain ⟨mk', methY, cY, hn', hmY, hcY, -, hlY, -, -, -, -⟩ := Cond.codeWith_spec (hgw _ w5 a)
  cases hn.symm.trans hn'
  obtain ⟨kY, hkY, -⟩ := className_of_methodNamed hn
  have hiY : kY.init = .initialized := Cond.initialized_spec (findClass_of_methodNamed hn) hkY (hgw _ w4 a)
  have hAt : At T g.method c below := by rw [hg]; exact X.here
  have happ : (headSpec (.codeWith y b2 n2 ret2 hh :: gw_T) rm).appliesLoose y e.platform (T.calling g mk a) = true :=
    Spec.appliesLoose_calling (g := g) hAt hdg hn hkY hiY (X.room_calling (g := g) (R' := rm) hsize hmY hcY hR.1 (by rw [hlY]; have := hR.2; omega) hcs.1 hcs.2) (atoms_intro hws)
  have hfr : (T.setTop g).frames = [.java g] ++ below := by rw [State.frames_setTop' g htop, X.tail]; rfl
  obtain ⟨o, s₂, hsteps, -, hend, hq⟩ := Steps.callFree hM p X.admits X.cas X.clock (acts := []) hfr happ hPa trivial
  have hend' : Ended s₂ (.java g :: below) o := by rw [show (Frame.java g :: below) = (T.setTop g).frames from hfr.symm]; exact hend
  have hcH : (T.calling g mk a).heap = H := hT
  rcases hq with ⟨v, u, L, rfl, hpo, hP1, hD1, hF1, hW1, hs1, hL⟩ | ⟨q, E, u, ce, L, rfl, hpo, hP1, hD1, hF1, hce, hcv, hcl, hW1, hs1, hL⟩
  · obtain ⟨T', X', -, hB, ht⟩ := X.outOf hg hdg hend' hW1 hs1
    have f1 : H.size ≤ s₂.heap.size := by
      have h : (T.calling g mk a).heap.size ≤ s₂.heap.size := hF1.1
      rw [hcH] at h
      exact h
    have f2 : ∀ z : Nat, z < H.size → ¬ va_A wc H.size z → s₂.heap[z]? = H[z]? := fun z z1 z2 => by
      have h : s₂.heap[z]? = (T.calling g mk a).heap[z]? := hF1.2 z (by show z < (T.calling g mk a).heap.size; rw [hcH]; exact z1) z2
      rw [hcH] at h
      exact h
    have hh : T'.heap = s₂.heap := by rw [ht]; rfl
    rw [ht] at hsteps
    refine Or.inl ⟨v, u, L, T', X', hpo, by rw [hh]; exact hP1, hD1, by rw [hh]; exact f1, fun z z1 z2 => by rw [hh]; exact f2 z z1 z2, hL, hsteps⟩
  · obtain ⟨T', X', -, hB, ht⟩ := X.outOfThrown hg hend' hW1 hs1
    have f1 : H.size ≤ s₂.heap.size := by
      have h : (T.calling g mk a).heap.size ≤ s₂.heap.size := hF1.1
      rw [hcH] at h
      exact h
    have f2 : ∀ z : Nat, z < H.size → ¬ va_A wc H.size z → s₂.heap[z]? = H[z]? := fun z z1 z2 => by
      have h : s₂.heap[z]? = (T.calling g mk a).heap[z]? := hF1.2 z (by show z < (T.calling g mk a).heap.size; rw [hcH]; exact z1) z2
      rw [hcH] at h
      exact h
    have hh : T'.heap = s₂.heap := by rw [ht]; rfl
    rw [ht] at hsteps
    refine Or.inr ⟨q, E, u, ce, L, T', X', hpo, by rw [hh]; exact hP1, hD1, by rw [hh]; exact f1, fun z z1 z2 => by rw [hh]; exact f2 z z1 z2, hL, by rw [hh]; exact hce, hcv, ?_, hsteps⟩
    have h9 : T.vm.findClass E = some ce.cls := hcl
    rw [X.warmed.alike.findClass] at h9
    exact h9
end XU9
section XW9
variable {p : Program} {l : Launch} {e : Env} {R : Room} {s : State} {m : MethodId} {args : Array Value} {below : List Frame} {meth : Method} {c : Code} {H : Heap} {locs : List Loc} {cells slots : Nat} {Q : State → Prop} {cc : ByteArray} {nL pc : Nat} {ls : Array Slot} {D : va_G} {k : Nat → ClassId} {own : String} {ret : Option FieldType} {A : Nat → Prop} {wc : va_W} {S : Type} {wf wn : S → va_W} {post : Option Value → S → Prop} {xp : String → S → Prop} {rest As : List Value} {y : MethodName} {b2 : ByteArray} {n2 np index q : Nat} {ret2 : Option FieldType} {rm : Room} {C2 : String} {hh : List (Nat × Nat × Nat × Nat)}
/-- invokestatic of a method that may throw -/
theorem callWS (C : Cx p s m args meth c D k own cc nL ret A) (hX : Xf D A s s.heap) (hS : va_S A s.heap H locs) (hJ : Jn D A H wc wf wn) (hM : CW l D k y b2 n2 hh rm As wc wf post)
    (w1 : Cond.methodLink own index y ∈ gw_T) (w2 : Cond.static y ∈ gw_T) (w4 : Cond.initialized y.cls ∈ gw_T) (w5 : Cond.codeWith y b2 n2 (some .int) hh ∈ gw_T)
    (hd : y.cls ≠ "java/lang/invoke/MethodHandle" ∧ y.cls ≠ "java/lang/invoke/VarHandle" ∧ (parseMethodDescriptor y.desc).map (fun d => d.parameters.length) = some np) (hnp : As.length = np)
    (hR : rm.frames + 1 ≤ R.frames ∧ 8 + (n2 + 11) + rm.locals ≤ R.locals) (hcs : cells + rm.cells ≤ R.cells ∧ slots + rm.slots ≤ R.slots) (hls : ls.size = nL) (hrest : (rest.map fun v => v.category).sum ≤ 8) (hdg : decode cc pc = .ok (.invokestatic index, 3))
    (kr : ∀ (v : Option Value) (u : S) (H : Heap) (locs : List Loc), post v u → va_P D CL (wn u) H → va_D A (wn u) → va_S A s.heap H locs → W p l e R s m args below meth c H locs (cells + rm.cells) (slots + rm.slots) Q (F0 m (pc + 3) ls (v.toList ++ rest))) :
    W p l e R s m args below meth c H locs cells slots Q (F0 m pc ls (As.reverse ++ rest)) := by
  obtain ⟨hx, hb, hr, hlk, hml, hown, hts, hK, hA⟩ := id C
  intro T hT X
  obtain ⟨mk, methM, cM, hnamed, hmethM, -, -, -, -, -, -, hsigM⟩ := Cond.codeWith_spec (hts _ w5)
  have hstatic : methM.isStatic = true := Cond.static_spec hnamed hmethM (hts _ w2)
  obtain ⟨kP, hkP, -⟩ := className_of_methodNamed hnamed
  have hinitP : kP.init = .initialized := Cond.initialized_spec (findClass_of_methodNamed hnamed) hkP (hts _ w4)
  have hlen : As.length = methM.sig.parameters.length := by
    have h2 := hd.2.2
    rw [hsigM] at h2
    exact hnp.trans (Option.some.inj h2).symm
  obtain ⟨vm₁, X₁, st⟩ := X.invokestatic hx hown (hts _ w1) hnamed hmethM hstatic hkP hinitP ⟨hd.1, hd.2.1⟩ (g := F0 m pc ls (As.reverse ++ rest)) rfl (argsL := As) (rest := rest) hlen rfl (by rw [hb]; exact hdg)
  have hF := hJ.1
  rcases coreW X₁ hT hts (g := F0 m pc ls rest) rfl (hls.trans hml.symm) (by rw [hb]; exact hdg) (lv_room hrest) (X₁.named hnamed) (hM H.size) w4 w5 hR hcs (preX (T := T) hK hX hS hJ hT X₁.warmed) with ⟨v, u, L, T', X', hpo, hP1, hD1, hz, hk, hL, hst⟩ | ⟨q, E, u, ce, L, T', X', hpo, hP1, hD1, hz, hk, hL, hce, hcv, hcl, hst⟩
  · obtain ⟨hP2, hD2⟩ := hJ.2.2.2 u _ hk hP1 hD1
    obtain ⟨t, a1, b1⟩ := kr v u _ _ hpo hP2 hD2 (behind hS hF hz hk hL) T' rfl X'
    exact ⟨t, st t (fun acts => by rw [doInvoke_state]; exact hst.trans a1), b1⟩
  · exact hpo.elim
end XW9
