/-! a call of a method that may throw -/
/-- the frame g, with q thrown over it -/
def WX (p : Program) (l : Launch) (e : Env) (R : Room) (s : State) (m : MethodId) (args : Array Value) (below : List Frame) (meth : Method) (c : Code) (H : Heap) (locs : List Loc) (cells slots : Nat) (Q : State → Prop) (g : JFrame) (q : Addr) : Prop :=
  ∀ T : State, T.heap = H → Stand p l e R s m args below meth c T locs cells slots → ∃ t, Steps p.tables e below ((T.setTop g).pushFrame (.throwing q)) t ∧ Q t
section XU
variable {p : Program} {l : Launch} {e : Env} {R : Room} {s : State} {m : MethodId} {args : Array Value} {below : List Frame} {meth : Method} {c : Code} {H : Heap} {locs : List Loc} {cells slots : Nat} {Q : State → Prop} {cc : ByteArray} {nL pc : Nat} {ls : Array Slot} {D : va_G} {k : Nat → ClassId} {own : String} {ret : Option FieldType} {A : Nat → Prop} {ws wc wr : va_W} {S S2 : Type} {wf : S → va_W} {post : Option Value → S → Prop} {xp : String → S → Prop} {rest As : List Value} {y : MethodName} {b2 : ByteArray} {n2 np index q : Nat} {ret2 : Option FieldType} {rm : Room} {C2 : String}
/-- not caught here: it leaves the method -/
theorem outX {u : S} {E : String} {ce : Cell} {mc ms : Nat} {st0 : List Value} (C : Cx p s m args meth c D k own cc nL ret A) (hcx : c.exceptionTable.isEmpty = true) (hP : va_P D CL (wf u) H) (hD : va_D A (wf u)) (hS : va_S A s.heap H locs) (hce : H[q]? = some ce) (hv : ce.vm = .none) (hcl : s.vm.findClass E = some ce.cls) (hc : cells ≤ mc) (hs : slots ≤ ms) (hp : xp E u) :
    WX p l e R s m args below meth c H locs cells slots (XQ below D A wf post xp s mc ms) (F0 m pc ls st0) q := by
  intro T hT X
  obtain ⟨h1, h2, h3, h4, h5⟩ := X.leaveThrown q (g := F0 m pc ls st0) rfl rfl rfl (fun x hx => by rw [Array.isEmpty_iff] at hcx; rw [hcx] at hx; cases hx) C.2.2.2.1
  have hh : (T.setFrames (.throwing q :: below)).heap = H := hT
  exact ⟨_, h1, .threw q, h2, h3, Or.inr ⟨q, E, u, ce, locs, rfl, hp, by rw [hh]; exact hP, hD, ⟨by rw [hh]; exact hS.1, fun z z1 z2 => by rw [hh]; exact hS.2.1 z z1 z2⟩, by rw [hh]; exact hce, hv, hcl, h4, h5.mono hc hs, hS.2.2⟩⟩
/-- the callee's run, seen from the caller's frame -/
theorem coreX {T : State} {g : JFrame} {ig : Instr} {mk : MethodId} {a : Array Value} (X : Stand p l e R s m args below meth c T locs cells slots) (hT : T.heap = H) (hts : ∀ w ∈ gw_T, w.before args s = true)
    (hg : g.method = m) (hsize : g.locals.size = c.maxLocals) (hdg : decode c.code g.pc = .ok (ig, 3)) (hW8 : 2 * g.monitorRoom + (g.stack.map fun v => v.category).sum ≤ 8) (hn : T.methodNamed? y = some mk)
    (hM : MetFree l y (headSpec (.code y b2 n2 ret2 :: gw_T) rm) (va_Pc As (xPre D k wc H.size)) (fun _ _ _ _ _ => True) (fun _ st o t => QXr D (va_A wc H.size) wf post xp rm.cells rm.slots st o t))
    (w4 : Cond.initialized y.cls ∈ gw_T) (w5 : Cond.code y b2 n2 ret2 ∈ gw_T) (hR : rm.frames + 1 ≤ R.frames ∧ 8 + (n2 + 11) + rm.locals ≤ R.locals) (hcs : cells + rm.cells ≤ R.cells ∧ slots + rm.slots ≤ R.slots) (hPa : va_Pc As (xPre D k wc H.size) a (T.calling g mk a)) :
    (∃ (v : Option Value) (u : S) (L : List Loc) (T' : State), Stand p l e R s m args below meth c T' (locs ++ L) (cells + rm.cells) (slots + rm.slots) ∧ post v u ∧ va_P D CL (wf u) T'.heap ∧ va_D (va_A wc H.size) (wf u) ∧ H.size ≤ T'.heap.size ∧ (∀ z : Nat, z < H.size → ¬ va_A wc H.size z → T'.heap[z]? = H[z]?) ∧ (∀ z ∈ L, va_A wc H.size z.base) ∧
      Steps p.tables e below (doInvoke e (T.setTop g) [] mk a).1 (T'.setTop { g with pc := g.pc + 3, stack := v.toList ++ g.stack })) ∨
    (∃ (q : Addr) (E : String) (u : S) (ce : Cell) (L : List Loc) (T' : State), Stand p l e R s m args below meth c T' (locs ++ L) (cells + rm.cells) (slots + rm.slots) ∧ xp E u ∧ va_P D CL (wf u) T'.heap ∧ va_D (va_A wc H.size) (wf u) ∧ H.size ≤ T'.heap.size ∧ (∀ z : Nat, z < H.size → ¬ va_A wc H.size z → T'.heap[z]? = H[z]?) ∧ (∀ z ∈ L, va_A wc H.size z.base) ∧
      T'.heap[q]? = some ce ∧ ce.vm = .none ∧ s.vm.findClass E = some ce.cls ∧ Steps p.tables e below (doInvoke e (T.setTop g) [] mk a).1 ((T'.setTop g).pushFrame (.throwing q))) := by
  have htop := X.here.top
  have hgw : ∀ w ∈ gw_T, ∀ a', w.before a' T = true := fun w hw a' => pay_in hts (gw_good (fun _ h => h)) w hw a' T X.warmed
  have hws : ∀ w ∈ (Cond.code y b2 n2 ret2 :: gw_T), w.before a T = true := fun w hw => (List.mem_cons.mp hw).elim (fun e => by rw [e]; exact hgw _ w5 a) (fun h => hgw w h a)
  obtain ⟨methY, cY, hmY, hcY, -, hlY, -, -, -, -⟩ := Cond.code_spec hn (hgw _ w5 a)
  obtain ⟨kY, hkY, -⟩ := className_of_methodNamed hn
  have hiY : kY.init = .initialized := Cond.initialized_spec (findClass_of_methodNamed hn) hkY (hgw _ w4 a)
  have hAt : At T g.method c below := by rw [hg]; exact X.here
  have happ : (headSpec (.code y b2 n2 ret2 :: gw_T) rm).appliesLoose y e.platform (T.calling g mk a) = true :=
    Spec.appliesLoose_calling (g := g) hAt hdg hn hkY hiY (X.room_calling (g := g) (R' := rm) hsize hmY hcY hR.1 (by rw [hlY]; have := hR.2; omega) hcs.1 hcs.2) (atoms_intro hws)
  have hfr : (T.setTop g).frames = [.java g] ++ below := by rw [State.frames_setTop' g htop, X.tail]; rfl
  obtain ⟨o, s₂, hsteps, -, hend, hq⟩ := Steps.callFree hM p X.admits X.cas X.clock (acts := []) hfr happ hPa trivial
  have hend' : Ended s₂ (.java g :: below) o := by rw [show (Frame.java g :: below) = (T.setTop g).frames from hfr.symm]; exact hend
  have hcH : (T.calling g mk a).heap = H := hT
  rcases hq with ⟨v, u, L, rfl, hpo, hP1, hD1, hF1, hW1, hs1, hL⟩ | ⟨q, E, u, ce, L, rfl, hpo, hP1, hD1, hF1, hce, hcv, hcl, hW1, hs1, hL⟩
  · obtain ⟨T', X', -, hB, ht⟩ := X.outOf hg hdg hend' hW1 hs1
    have f1 : H.size ≤ s₂.heap.size := by
      have h : (T.calling g mk a).heap.size ≤ s₂.heap.size := hF1.1
      rw [hcH] at h
      exact h
    have f2 : ∀ z : Nat, z < H.size → ¬ va_A wc H.size z → s₂.heap[z]? = H[z]? := fun z z1 z2 => by
      have h : s₂.heap[z]? = (T.calling g mk a).heap[z]? := hF1.2 z (by show z < (T.calling g mk a).heap.size; rw [hcH]; exact z1) z2
      rw [hcH] at h
      exact h
    have hh : T'.heap = s₂.heap := by rw [ht]; rfl
    rw [ht] at hsteps
    refine Or.inl ⟨v, u, L, T', X', hpo, by rw [hh]; exact hP1, hD1, by rw [hh]; exact f1, fun z z1 z2 => by rw [hh]; exact f2 z z1 z2, hL, hsteps⟩
  · obtain ⟨T', X', -, hB, ht⟩ := X.outOfThrown hg hend' hW1 hs1
    have f1 : H.size ≤ s₂.heap.size := by
      have h : (T.calling g mk a).heap.size ≤ s₂.heap.size := hF1.1
      rw [hcH] at h
      exact h
    have f2 : ∀ z : Nat, z < H.size → ¬ va_A wc H.size z → s₂.heap[z]? = H[z]? := fun z z1 z2 => by
      have h : s₂.heap[z]? = (T.calling g mk a).heap[z]? := hF1.2 z (by show z < (T.calling g mk a).heap.size; rw [hcH]; exact z1) z2
      rw [hcH] at h
      exact h
    have hh : T'.heap = s₂.heap := by rw [ht]; rfl
    rw [ht] at hsteps
    refine Or.inr ⟨q, E, u, ce, L, T', X', hpo, by rw [hh]; exact hP1, hD1, by rw [hh]; exact f1, fun z z1 z2 => by rw [hh]; exact f2 z z1 z2, hL, by rw [hh]; exact hce, hcv, ?_, hsteps⟩
    have h9 : T.vm.findClass E = some ce.cls := hcl
    rw [X.warmed.alike.findClass] at h9
    exact h9
end XU
