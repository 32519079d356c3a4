/-! methods with an exception table: entry, catching, the call of one -/
/-- an int answer of a method with a table hh -/
def CW (l : Launch) (D : va_G) (k : Nat → ClassId) (y : MethodName) (b : ByteArray) (n : Nat) (hh : List (Nat × Nat × Nat × Nat)) (rm : Room) (av : List Value) (ws : va_W) {S : Type} (wf : S → va_W) (post : Option Value → S → Prop) : Prop :=
  ∀ sz : Nat, MetFree l y (headSpec (.codeWith y b n (some .int) hh :: gw_T) rm) (va_Pc av (xPre D k ws sz)) (fun _ _ _ _ _ => True) (fun _ st o t => QXr D (va_A ws sz) wf post (fun _ _ => False) rm.cells rm.slots st o t)
def rowsOf (hh : List (Nat × Nat × Nat × Nat)) : List ExceptionTableEntry := hh.map (fun q => { startPc := q.1, endPc := q.2.1, handlerPc := q.2.2.1, catchType := q.2.2.2 })
theorem rows_of {t : List ExceptionTableEntry} {hh : List (Nat × Nat × Nat × Nat)} (h : t.map (fun h => (h.startPc, h.endPc, h.handlerPc, h.catchType)) = hh) : t = rowsOf hh := by
  subst h
  unfold rowsOf
  rw [List.map_map]
  induction t with
  | nil => rfl
  | cons x r ih => rw [List.map_cons, ← ih]; rfl
theorem CW.of {l : Launch} {D : va_G} {k : Nat → ClassId} {y : MethodName} {b : ByteArray} {n : Nat} {hh : List (Nat × Nat × Nat × Nat)} {rm : Room} {av : List Value} {ws : va_W} {S : Type} {wf : S → va_W} {post : Option Value → S → Prop} (hy : plainName y.cls = true) (hn : (lg_sl av).length ≤ n)
    (body : ∀ (p : Program) (e : Env) (s : State) (m : MethodId) (below : List Frame) (meth : Method) (c : Code) (A : Nat → Prop) (H : Heap) (locs : List Loc) (ls : Array Slot), Cx p s m av.toArray meth c D k y.cls b n (some .int) A → Xf D A s s.heap → c.exceptionTable.toList = rowsOf hh → va_P D CL ws H → va_D A ws → va_S A s.heap H locs → lv_has ls n (lv_args 0 av) →
      W p l e rm s m av.toArray below meth c H locs 0 0 (XQ below D A wf post (fun _ _ => False) s rm.cells rm.slots) (F0 m 0 ls [])) : CW l D k y b n hh rm av ws wf post := by
  intro sz
  refine MetFree.of_bodyS (code := b) (maxLocals := n) (ret := some .int) hy ?_ ?_
  · intro args s m h hn
    obtain ⟨m', meth, c, h0, h1, h2, h3, h4, -, h5, h6, -⟩ := Cond.codeWith_spec (atoms_spec (ws := .codeWith y b n (some .int) hh :: gw_T) h _ List.mem_cons_self)
    cases hn.symm.trans h0
    exact ⟨meth, c, h1, h2, h3, h4, h5, h6⟩
  · intro p e s m args below meth c s₁ B hml hv _
    obtain ⟨rfl, ⟨hsz, hP, hK, hD0⟩, hX⟩ := hv
    have hts := atoms_spec (ws := .codeWith y b n (some .int) hh :: gw_T) B.pre
    obtain ⟨m', meth', c', h0, h1, h2, h3, h4, h9, h5, h6, -⟩ := Cond.codeWith_spec (hts _ List.mem_cons_self)
    cases B.named.symm.trans h0
    cases B.method.symm.trans h1
    cases (Stand.of_body B).code.symm.trans h2
    subst hsz
    have hD := hD0.self (sz := s.heap.size)
    have hhp : s₁.heap = s.heap := by rw [B.state]; rfl
    obtain ⟨t, a1, o, b1, b2, b3⟩ := (body p e s m below meth c _ _ _ _ ⟨B.exec, B.bytes, B.returns, B.notSynchronized, hml, findClass_of_methodNamed B.named, fun w h => hts w (List.mem_cons_of_mem _ h), hK, fun q h => Or.inr h⟩ hX (rows_of h9) hP hD va_S.rf (lv_entry av hn)) s₁ hhp (Stand.of_body B)
    refine ⟨t, o, ?_, b1, b2, b3⟩
    rw [lg_entry_eq]
    exact a1
section XK
variable {p : Program} {l : Launch} {e : Env} {R : Room} {s : State} {m : MethodId} {args : Array Value} {below : List Frame} {meth : Method} {c : Code} {H : Heap} {locs : List Loc} {cells slots : Nat} {Q : State → Prop} {cc : ByteArray} {nL pc : Nat} {ls : Array Slot} {D : va_G} {k : Nat → ClassId} {own : String} {ret : Option FieldType} {A : Nat → Prop} {rest : List Value}
theorem catchX {E name : String} {ce : Cell} {q : Addr} (C : Cx p s m args meth c D k own cc nL ret A) (hX : Xf D A s s.heap) (pre : List ExceptionTableEntry) (x : ExceptionTableEntry) (suf : List ExceptionTableEntry) (hsplit : c.exceptionTable.toList = pre ++ x :: suf)
    (hpass : ∀ z ∈ pre, z.catchType ≠ 0 ∧ ∃ nm : String, Cond.classLink own z.catchType nm ∈ gw_T ∧ va_Nc E nm s) (hx : covers x pc = true) (h0 : x.catchType ≠ 0) (hlink : Cond.classLink own x.catchType name ∈ gw_T) (hcast : Cond.castable E name ∈ xW)
    (hce : H[q]? = some ce) (hv : ce.vm = .none) (hcl : s.vm.findClass E = some ce.cls) (kk : W p l e R s m args below meth c H locs cells slots Q (F0 m x.handlerPc ls [.ref q])) : WX p l e R s m args below meth c H locs cells slots Q (F0 m pc ls rest) q := by
  obtain ⟨hxe, hb, hr, hlk, hml, hown, hts, hK, hA⟩ := id C
  intro T hT X
  have hpl : e.platform.magicAccessors = ({} : Platform).magicAccessors := by rw [X.admits.platform]
  have hct : (Cond.castable E name).before args s = true := hX.1 s args (State.WarmedH.refl s) (fun _ _ _ => rfl) _ hcast
  obtain ⟨c3, c4, hc3, hc4, hasg⟩ := Cond.castable_spec hct
  cases Option.some.inj (hc3.symm.trans hcl)
  obtain ⟨c5, hc5, hcl5⟩ := Cond.classLink_spec hown (hts _ hlink) e.platform hpl
  cases Option.some.inj (hc4.symm.trans hc5)
  obtain ⟨k9, hk9, -⟩ := Vm.findClass_spec hcl
  obtain ⟨vm', X', st⟩ := X.thenCaughtThrough q (g := F0 m pc ls rest) rfl (Steps.refl _) (by rw [hT]; exact hce) (by rw [hv]; rfl) ⟨k9, hk9⟩ pre x suf hsplit (fun z hz => by
      obtain ⟨hz0, nm, hl1, a8, b8, h1, h2, h3⟩ := hpass z hz
      obtain ⟨c6, hc6, hcl6⟩ := Cond.classLink_spec hown (hts _ hl1) e.platform hpl
      cases Option.some.inj (h1.symm.trans hcl)
      cases Option.some.inj (h2.symm.trans hc6)
      exact Or.inr ⟨hz0, _, hcl6, h3⟩) hx (Or.inr ⟨h0, c4, hcl5, hasg⟩)
  obtain ⟨t, a1, b1⟩ := kk (T.setVm vm') hT X'
  exact ⟨t, st.trans a1, b1⟩
end XK
