/-! the form of all contracts of this claim: what a method is given, what it gives back; entry, end, call -/
abbrev St : Type := Nat → Nat → Int32
/-- a store with one place written -/
def s2 (σ : St) (k i : Nat) (v : Int32) : St := va_up σ k (upd (σ k) i v)
theorem fm_of {α β : Type} {f : α → Option β} {is : List α} {w : List β} (h : is.map f = w.map some) : is.filterMap f = w := by
  have e : is.filterMap f = (is.map f).filterMap id := by rw [List.filterMap_map]; rfl
  rw [e, h, List.filterMap_map]
  simp
def R_AL : String := "java/util/ArrayList"
def F_AL : u_T := fun k => match k with
  | 0 => ("java/util/AbstractList", "modCount", "I", false)
  | 1 => ("java/util/ArrayList", "elementData", "[Ljava/lang/Object;", false)
  | _ => ("java/util/ArrayList", "size", "I", false)
def t_AL : Nat → FieldType := fun k => match k with
  | 0 => .int
  | 1 => .array (.object "java/lang/Object")
  | _ => .int
theorem n_AL : ∀ a, a < 3 → ∀ b, b < 3 → a ≠ b → (F_AL a).2.1 ≠ (F_AL b).2.1 := by decide +kernel
theorem tt_AL : ∀ k, k < 3 → parseFieldDescriptor (F_AL k).2.2.1 = some (t_AL k) := by decide +kernel
theorem in_AL : ∀ w ∈ u_ws R_AL F_AL 3, w ∈ gw_T := by decide +kernel
abbrev CL : List vw_C := [(R_Basket, F_Basket, 2), (R_Offer, F_Offer, 6), (R_Plan, F_Plan, 6), (R_Planner, F_Planner, 6), (R_Rec, F_Rec, 7), (R_Tariff, F_Tariff, 2), (R_Uses, F_Uses, 10), (R_Till, F_Till, 9), (R_Model, F_Model, 40), (R_AL, F_AL, 3)]
abbrev TY (k : Nat → ClassId) : List (ClassId × FieldType) := [(k 0, .int), (k 1, .boolean), (k 2, .long), (k 3, .object "PromotionTill$Offer"), (k 4, .object "java/lang/Object")]
abbrev mPre (D : va_G) (k : Nat → ClassId) (ws : va_W) (sz : Nat) : State → Prop := fun U => U.heap.size = sz ∧ va_P D CL ws U.heap ∧ va_K D CL (TY k) U ∧ va_D (fun _ => True) ws
theorem mPre_blind {D : va_G} {k : Nat → ClassId} {ws : va_W} {sz : Nat} {av : List Value} : FrameBlind (va_Pc av (mPre D k ws sz)) := fun a U g mk q => by
  obtain ⟨q0, q1, qP, qK, qD⟩ := q
  exact ⟨q0, q1, qP, va_K.moved (u := U) (U := U.calling g mk a) (Vm.Alike.refl U.vm) qK, qD⟩
/-- contracts: an int or boolean answer; none -/
def Ci (l : Launch) (D : va_G) (k : Nat → ClassId) (y : MethodName) (b : ByteArray) (n : Nat) (ret : FieldType) (rm : Room) (av : List Value) (ws : va_W) {S : Type} (wf : S → va_W) (post : Int32 → S → Prop) : Prop :=
  ∀ sz : Nat, Met l y (.code y b n (some ret) :: gw_T) rm (va_Pc av (mPre D k ws sz)) (va_Qi post (fun u t => va_P D CL (wf u) t.heap ∧ va_D (va_A ws sz) (wf u)) (va_A ws sz)) rm.cells rm.slots (va_A ws sz)
def Cv (l : Launch) (D : va_G) (k : Nat → ClassId) (y : MethodName) (b : ByteArray) (n : Nat) (rm : Room) (av : List Value) (ws : va_W) {S : Type} (wf : S → va_W) (post : S → Prop) : Prop :=
  ∀ sz : Nat, Met l y (.code y b n none :: gw_T) rm (va_Pc av (mPre D k ws sz)) (va_Qv post (fun u t => va_P D CL (wf u) t.heap ∧ va_D (va_A ws sz) (wf u)) (va_A ws sz)) rm.cells rm.slots (va_A ws sz)
/-- what a walk holds of its method: the machine, the code, the words -/
def Cx (p : Program) (s : State) (m : MethodId) (args : Array Value) (meth : Method) (c : Code) (D : va_G) (k : Nat → ClassId) (own : String) (b : ByteArray) (n : Nat) (ret : Option FieldType) (A : Nat → Prop) : Prop :=
  p.tables.exec = Jvm.exec ∧ c.code = b ∧ meth.sig.returnType = ret ∧ meth.locks = false ∧ c.maxLocals = n ∧ s.vm.findClass own = some m.cls ∧ (∀ w ∈ gw_T, w.before args s = true) ∧ va_K D CL (TY k) s ∧ ∀ q : Nat, s.heap.size ≤ q → A q
theorem Ci.of {l : Launch} {D : va_G} {k : Nat → ClassId} {y : MethodName} {b : ByteArray} {n : Nat} {ret : FieldType} {rm : Room} {av : List Value} {ws : va_W} {S : Type} {wf : S → va_W} {post : Int32 → S → Prop} (hy : plainName y.cls = true) (hn : (lg_sl av).length ≤ n)
    (body : ∀ (p : Program) (e : Env) (s : State) (m : MethodId) (below : List Frame) (meth : Method) (c : Code) (A : Nat → Prop) (H : Heap) (locs : List Loc) (ls : Array Slot), Cx p s m av.toArray meth c D k y.cls b n (some ret) A → va_P D CL ws H → va_D A ws → va_S A s.heap H locs → lv_has ls n (lv_args 0 av) →
      W p l e rm s m av.toArray below meth c H locs 0 0 (MQ below (va_Qi post (fun u t => va_P D CL (wf u) t.heap ∧ va_D A (wf u)) A) av.toArray s rm.cells rm.slots A) (F0 m 0 ls [])) : Ci l D k y b n ret rm av ws wf post := by
  intro sz
  refine Met.ofW (cc := b) (maxL := n) (ret := some ret) hy rfl ?_
  intro p e s m args below meth c s₁ B hml hv
  obtain ⟨rfl, hsz, hP, hK, hD0⟩ := hv
  have hts := atoms_spec (ws := .code y b n (some ret) :: gw_T) B.pre
  subst hsz
  have hD := hD0.self (sz := s.heap.size)
  rw [lg_entry_eq]
  exact body p e s m below meth c _ _ _ _ ⟨B.exec, B.bytes, B.returns, B.notSynchronized, hml, findClass_of_methodNamed B.named, fun w h => hts w (List.mem_cons_of_mem _ h), hK, fun q h => Or.inr h⟩ hP hD va_S.rf (lv_entry av hn)
theorem Cv.of {l : Launch} {D : va_G} {k : Nat → ClassId} {y : MethodName} {b : ByteArray} {n : Nat} {rm : Room} {av : List Value} {ws : va_W} {S : Type} {wf : S → va_W} {post : S → Prop} (hy : plainName y.cls = true) (hn : (lg_sl av).length ≤ n)
    (body : ∀ (p : Program) (e : Env) (s : State) (m : MethodId) (below : List Frame) (meth : Method) (c : Code) (A : Nat → Prop) (H : Heap) (locs : List Loc) (ls : Array Slot), Cx p s m av.toArray meth c D k y.cls b n none A → va_P D CL ws H → va_D A ws → va_S A s.heap H locs → lv_has ls n (lv_args 0 av) →
      W p l e rm s m av.toArray below meth c H locs 0 0 (MQ below (va_Qv post (fun u t => va_P D CL (wf u) t.heap ∧ va_D A (wf u)) A) av.toArray s rm.cells rm.slots A) (F0 m 0 ls [])) : Cv l D k y b n rm av ws wf post := by
  intro sz
  refine Met.ofW (cc := b) (maxL := n) (ret := none) hy rfl ?_
  intro p e s m args below meth c s₁ B hml hv
  obtain ⟨rfl, hsz, hP, hK, hD0⟩ := hv
  have hts := atoms_spec (ws := .code y b n none :: gw_T) B.pre
  subst hsz
  have hD := hD0.self (sz := s.heap.size)
  rw [lg_entry_eq]
  exact body p e s m below meth c _ _ _ _ ⟨B.exec, B.bytes, B.returns, B.notSynchronized, hml, findClass_of_methodNamed B.named, fun w h => hts w (List.mem_cons_of_mem _ h), hK, fun q h => Or.inr h⟩ hP hD va_S.rf (lv_entry av hn)
section FR
variable {p : Program} {l : Launch} {e : Env} {R : Room} {s : State} {m : MethodId} {args : Array Value} {below : List Frame} {meth : Method} {c : Code} {H : Heap} {locs : List Loc} {cells slots : Nat} {Q : State → Prop} {cc : ByteArray} {nL pc : Nat} {ls : Array Slot} {D : va_G} {k : Nat → ClassId} {own : String} {ret : Option FieldType} {A : Nat → Prop} {ws : va_W} {S : Type} {wf : S → va_W}
theorem ret_i {post : Int32 → S → Prop} {mc ms : Nat} {v : Int32} {u : S} (C : Cx p s m args meth c D k own cc nL (some .int) A) (hP : va_P D CL (wf u) H) (hD : va_D A (wf u)) (hS : va_S A s.heap H locs) (hc : cells ≤ mc) (hs : slots ≤ ms) (hp : post v u) (hdg : decode cc pc = .ok (.ireturn, 1)) :
    W p l e R s m args below meth c H locs cells slots (MQ below (va_Qi post (fun u t => va_P D CL (wf u) t.heap ∧ va_D A (wf u)) A) args s mc ms A) (F0 m pc ls [.int v]) :=
  W.widen hc hs (W.iret C.1 C.2.1 C.2.2.1 (fun t ht _ => ⟨⟨v, u, rfl, hp, by rw [ht]; exact hP, hD⟩, hS.F ht⟩) hS.2.2 hdg C.2.2.2.1)
theorem ret_z {post : Int32 → S → Prop} {mc ms : Nat} {v : Int32} {u : S} (C : Cx p s m args meth c D k own cc nL (some .boolean) A) (hn : narrow .boolean (.int v) = .int v) (hP : va_P D CL (wf u) H) (hD : va_D A (wf u)) (hS : va_S A s.heap H locs) (hc : cells ≤ mc) (hs : slots ≤ ms) (hp : post v u) (hdg : decode cc pc = .ok (.ireturn, 1)) :
    W p l e R s m args below meth c H locs cells slots (MQ below (va_Qi post (fun u t => va_P D CL (wf u) t.heap ∧ va_D A (wf u)) A) args s mc ms A) (F0 m pc ls [.int v]) :=
  W.widen hc hs (W.zret C.1 C.2.1 C.2.2.1 hn (fun t ht _ => ⟨⟨v, u, rfl, hp, by rw [ht]; exact hP, hD⟩, hS.F ht⟩) hS.2.2 hdg C.2.2.2.1)
theorem ret_v {post : S → Prop} {mc ms : Nat} {u : S} (C : Cx p s m args meth c D k own cc nL none A) (hP : va_P D CL (wf u) H) (hD : va_D A (wf u)) (hS : va_S A s.heap H locs) (hc : cells ≤ mc) (hs : slots ≤ ms) (hp : post u) (hdg : decode cc pc = .ok (.return_, 1)) :
    W p l e R s m args below meth c H locs cells slots (MQ below (va_Qv post (fun u t => va_P D CL (wf u) t.heap ∧ va_D A (wf u)) A) args s mc ms A) (F0 m pc ls []) :=
  W.widen hc hs (W.vret C.1 C.2.1 C.2.2.1 (fun t ht _ => ⟨⟨u, rfl, hp, by rw [ht]; exact hP, hD⟩, hS.F ht⟩) hS.2.2 hdg C.2.2.2.1)
variable {y : MethodName} {b2 : ByteArray} {n2 : Nat} {ret2 : Option FieldType} {rm : Room} {wc wr : va_W} {Qc : Array Value → State → Outcome → State → Prop} {free : Addr → Prop} {q : Nat} {As rest : List Value} {C2 : String} {index : Nat}
theorem preS_of {av : List Value} (hK : va_K D CL (TY k) s) (hP : va_P D CL wc H) (hD : va_D A wc) : ∀ U : State, U.heap = H → s.WarmedH U.vm → va_Pc av (mPre D k wc H.size) av.toArray U := fun U hU hW =>
  ⟨rfl, by rw [hU], by rw [hU]; exact hP, va_K.moved hW.alike hK, hD.weaken (fun _ _ _ _ => trivial)⟩
/-- invokevirtual of a method by its own name; the receiver is the place q0 of the callee's world -/
theorem runV (C : Cx p s m args meth c D k own cc nL ret A) (hP : va_P D CL wc H) (hD : va_D A wc)
    (hM : Met l y (.code y b2 n2 ret2 :: gw_T) rm (va_Pc (.ref q :: As) (mPre D k wc H.size)) Qc rm.cells rm.slots free)
    (w1 : Cond.methodLink own index y ∈ gw_T) (w2 : Cond.instanceMethod y ∈ gw_T) (w3 : Cond.selects C2 y y ∈ gw_T) (w4 : Cond.initialized C2 ∈ gw_T) (w5 : Cond.code y b2 n2 ret2 ∈ gw_T) {np : Nat}
    (hd : y.cls = C2 ∧ y.cls ≠ "java/lang/invoke/MethodHandle" ∧ y.cls ≠ "java/lang/invoke/VarHandle" ∧ (parseMethodDescriptor y.desc).map (fun d => d.parameters.length) = some np)
    (hR : rm.frames + 1 ≤ R.frames ∧ 8 + (n2 + 11) + rm.locals ≤ R.locals) (hcs : cells + rm.cells ≤ R.cells ∧ slots + rm.slots ≤ R.slots)
    (q0 : Nat) {ci : Nat} {fs : List Value} {r : vw_C} (hq : wc[q0]? = some (q, .inr (ci, fs))) (hci : CL[ci]? = some r) (hrC : r.1 = C2) (hnp : As.length = np) (hls : ls.size = nL) (hrest : (rest.map fun v => v.category).sum ≤ 8) (hdg : decode cc pc = .ok (.invokevirtual index, 3)) :
    va_Run p l e R s m args below meth c H locs cells slots rm.cells rm.slots (F0 m pc ls (As.reverse ++ .ref q :: rest)) rest (Qc (Value.ref q :: As).toArray) free := by
  obtain ⟨hx, hb, -, -, hml, hown, hts, hK, -⟩ := C
  refine va_runV (As := As) (rest := rest) ⟨hx, hb, hml, hown, hts⟩ hM (cwV np hts (gw_good ?_) rfl rfl rfl hd hR) ⟨mPre_blind, ?_, preS_of hK hP hD⟩ rfl hnp hls rfl (lv_room hrest) hdg hcs
  · intro w hw
    simp only [wsV, List.mem_append, List.mem_cons, List.not_mem_nil, or_false] at hw
    rcases hw with (h | h | h | h) | h | h
    · rw [h]; exact w1
    · rw [h]; exact w2
    · rw [h]; exact w3
    · rw [h]; exact w4
    · rw [h]; exact w5
    · exact h
  · rw [← hrC]
    exact va_recv hK hP hci hq
/-- invokestatic -/
theorem runS (C : Cx p s m args meth c D k own cc nL ret A) (hP : va_P D CL wc H) (hD : va_D A wc)
    (hM : Met l y (.code y b2 n2 ret2 :: gw_T) rm (va_Pc As (mPre D k wc H.size)) Qc rm.cells rm.slots free)
    (w1 : Cond.methodLink own index y ∈ gw_T) (w2 : Cond.static y ∈ gw_T) (w4 : Cond.initialized y.cls ∈ gw_T) (w5 : Cond.code y b2 n2 ret2 ∈ gw_T) {np : Nat}
    (hd : y.cls ≠ "java/lang/invoke/MethodHandle" ∧ y.cls ≠ "java/lang/invoke/VarHandle" ∧ (parseMethodDescriptor y.desc).map (fun d => d.parameters.length) = some np)
    (hR : rm.frames + 1 ≤ R.frames ∧ 8 + (n2 + 11) + rm.locals ≤ R.locals) (hcs : cells + rm.cells ≤ R.cells ∧ slots + rm.slots ≤ R.slots)
    (hnp : As.length = np) (hls : ls.size = nL) (hrest : (rest.map fun v => v.category).sum ≤ 8) (hdg : decode cc pc = .ok (.invokestatic index, 3)) :
    va_Run p l e R s m args below meth c H locs cells slots rm.cells rm.slots (F0 m pc ls (As.reverse ++ rest)) rest (Qc As.toArray) free := by
  obtain ⟨hx, hb, -, -, hml, hown, hts, hK, -⟩ := C
  refine va_runS (As := As) (rest := rest) ⟨hx, hb, hml, hown, hts⟩ hM ⟨callB_of np hts (gw_good ?_) rfl rfl rfl (hts _ w4) (hts _ w1) hd hR, hts _ w2⟩ ⟨mPre_blind, preS_of hK hP hD⟩ rfl hnp hls rfl (lv_room hrest) hdg hcs
  intro w hw
  rcases List.mem_cons.mp hw with h | h
  · rw [h]; exact w5
  · exact h
theorem free_self {A : Nat → Prop} {H0 H : Heap} {locs : List Loc} (hD : va_D A ws) (hS : va_S A H0 H locs) (hA : ∀ q, H0.size ≤ q → A q) : ∀ q, va_A ws H.size q → A q := by
  intro q h
  rcases h with ⟨k, e, h⟩ | h
  · exact hD.2 k (q, e) h
  · exact hA q (Nat.le_trans hS.1 h)
/-- a call whose world is the caller's own -/
theorem same_i {post : Int32 → S → Prop} {mc ms : Nat} {a : Array Value} {st0 : List Value} (C : Cx p s m args meth c D k own cc nL ret A) (hP : va_P D CL ws H) (hD : va_D A ws) (hS : va_S A s.heap H locs)
    (hr : va_Run p l e R s m args below meth c H locs cells slots mc ms (F0 m pc ls st0) rest (va_Qi post (fun u t => va_P D CL (wf u) t.heap ∧ va_D (va_A ws H.size) (wf u)) (va_A ws H.size) a) (va_A ws H.size))
    (kk : ∀ (r : Int32) (u : S) (H : Heap) (locs : List Loc), post r u → va_P D CL (wf u) H → va_D A (wf u) → va_S A s.heap H locs → W p l e R s m args below meth c H locs (cells + mc) (slots + ms) Q (F0 m (pc + 3) ls (.int r :: rest))) : W p l e R s m args below meth c H locs cells slots Q (F0 m pc ls st0) := by
  have hF := free_self hD hS C.2.2.2.2.2.2.2.2
  refine va_calli hr hS (fun q _ h => hF q h) hF (fun r u t H1 locs1 ht _ hpo hB _ hk1 hS1 => ?_)
  obtain ⟨hP1, hD1⟩ := hB
  rw [ht] at hP1
  exact kk r u H1 locs1 hpo hP1 (hD1.weaken (fun _ q _ h => hF q.1 h)) hS1
theorem same_v {post : S → Prop} {mc ms : Nat} {a : Array Value} {st0 : List Value} (C : Cx p s m args meth c D k own cc nL ret A) (hP : va_P D CL ws H) (hD : va_D A ws) (hS : va_S A s.heap H locs)
    (hr : va_Run p l e R s m args below meth c H locs cells slots mc ms (F0 m pc ls st0) rest (va_Qv post (fun u t => va_P D CL (wf u) t.heap ∧ va_D (va_A ws H.size) (wf u)) (va_A ws H.size) a) (va_A ws H.size))
    (kk : ∀ (u : S) (H : Heap) (locs : List Loc), post u → va_P D CL (wf u) H → va_D A (wf u) → va_S A s.heap H locs → W p l e R s m args below meth c H locs (cells + mc) (slots + ms) Q (F0 m (pc + 3) ls rest)) : W p l e R s m args below meth c H locs cells slots Q (F0 m pc ls st0) := by
  have hF := free_self hD hS C.2.2.2.2.2.2.2.2
  refine va_callv hr hS (fun q _ h => hF q h) hF (fun u t H1 locs1 ht _ hpo hB _ hk1 hS1 => ?_)
  obtain ⟨hP1, hD1⟩ := hB
  rw [ht] at hP1
  exact kk u H1 locs1 hpo hP1 (hD1.weaken (fun _ q _ h => hF q.1 h)) hS1
theorem nilP : va_P D CL [] H := fun k q h => by simp at h
theorem nilD : va_D A [] := ⟨fun i j p q h => by simp at h, fun k q h => by simp at h⟩
/-- a call of a method without a world -/
theorem none_i {post : Int32 → S → Prop} {mc ms : Nat} {a : Array Value} {st0 : List Value} (C : Cx p s m args meth c D k own cc nL ret A) (hP : va_P D CL ws H) (hD : va_D A ws) (hS : va_S A s.heap H locs)
    (hr : va_Run p l e R s m args below meth c H locs cells slots mc ms (F0 m pc ls st0) rest (va_Qi post (fun u t => va_P D CL (wf u) t.heap ∧ va_D (va_A [] H.size) (wf u)) (va_A [] H.size) a) (va_A [] H.size))
    (kk : ∀ (r : Int32) (u : S) (H : Heap) (locs : List Loc), post r u → va_P D CL ws H → va_D A ws → va_S A s.heap H locs → W p l e R s m args below meth c H locs (cells + mc) (slots + ms) Q (F0 m (pc + 3) ls (.int r :: rest))) : W p l e R s m args below meth c H locs cells slots Q (F0 m pc ls st0) := by
  have hF : ∀ q, va_A [] H.size q → A q := fun q h => by
    rcases h with ⟨i, e, h⟩ | h
    · simp at h
    · exact C.2.2.2.2.2.2.2.2 q (Nat.le_trans hS.1 h)
  refine va_calli hr hS (fun q _ h => hF q h) hF (fun r u t H1 locs1 ht _ hpo hB _ hk1 hS1 => ?_)
  refine kk r u H1 locs1 hpo (fun i q hi => (hP i q hi).kept (hk1 q.1 (hP i q hi).lt (fun h => ?_))) hD hS1
  rcases h with ⟨j, e, h⟩ | h
  · simp at h
  · exact absurd (hP i q hi).lt (Nat.not_lt.mpr h)
/-- behind a call: the callee's cells beside the rest, in the order that is wanted -/
theorem call_i {post : Int32 → S → Prop} {wn : S → va_W} {mc ms : Nat} {a : Array Value} {st0 : List Value} (C : Cx p s m args meth c D k own cc nL ret A) (hP : va_P D CL ws H) (hD : va_D A ws) (hS : va_S A s.heap H locs)
    (isC isR perm : List Nat) (hC : isC.map (fun i => ws[i]?) = wc.map some) (hR : isR.map (fun i => ws[i]?) = wr.map some) (hn : va_nd isR = true) (hdis : ∀ i ∈ isR, i ∉ isC) (hw : ∀ u, perm.map (fun i => (wr ++ wf u)[i]?) = (wn u).map some) (hnp : va_nd perm = true)
    (hr : va_Run p l e R s m args below meth c H locs cells slots mc ms (F0 m pc ls st0) rest (va_Qi post (fun u t => va_P D CL (wf u) t.heap ∧ va_D (va_A wc H.size) (wf u)) (va_A wc H.size) a) (va_A wc H.size))
    (kk : ∀ (r : Int32) (u : S) (H : Heap) (locs : List Loc), post r u → va_P D CL (wn u) H → va_D A (wn u) → va_S A s.heap H locs → W p l e R s m args below meth c H locs (cells + mc) (slots + ms) Q (F0 m (pc + 3) ls (.int r :: rest))) : W p l e R s m args below meth c H locs cells slots Q (F0 m pc ls st0) := by
  have hF := va_free (wc := wc) hD hS C.2.2.2.2.2.2.2.2 isC hC
  refine va_calli hr hS (fun q _ h => hF q h) hF (fun r u t H1 locs1 ht _ hpo hB _ hk1 hS1 => ?_)
  obtain ⟨hP1, hD1⟩ := hB
  rw [ht] at hP1
  obtain ⟨hP2, hD2⟩ := va_join hP hD isC isR hC hR hn hdis hk1 hF hP1 hD1
  exact kk r u H1 locs1 hpo (hP2.sub perm (fm_of (hw u))) (hD2.sub perm hnp (hw u)) hS1
theorem call_v {post : S → Prop} {wn : S → va_W} {mc ms : Nat} {a : Array Value} {st0 : List Value} (C : Cx p s m args meth c D k own cc nL ret A) (hP : va_P D CL ws H) (hD : va_D A ws) (hS : va_S A s.heap H locs)
    (isC isR perm : List Nat) (hC : isC.map (fun i => ws[i]?) = wc.map some) (hR : isR.map (fun i => ws[i]?) = wr.map some) (hn : va_nd isR = true) (hdis : ∀ i ∈ isR, i ∉ isC) (hw : ∀ u, perm.map (fun i => (wr ++ wf u)[i]?) = (wn u).map some) (hnp : va_nd perm = true)
    (hr : va_Run p l e R s m args below meth c H locs cells slots mc ms (F0 m pc ls st0) rest (va_Qv post (fun u t => va_P D CL (wf u) t.heap ∧ va_D (va_A wc H.size) (wf u)) (va_A wc H.size) a) (va_A wc H.size))
    (kk : ∀ (u : S) (H : Heap) (locs : List Loc), post u → va_P D CL (wn u) H → va_D A (wn u) → va_S A s.heap H locs → W p l e R s m args below meth c H locs (cells + mc) (slots + ms) Q (F0 m (pc + 3) ls rest)) : W p l e R s m args below meth c H locs cells slots Q (F0 m pc ls st0) := by
  have hF := va_free (wc := wc) hD hS C.2.2.2.2.2.2.2.2 isC hC
  refine va_callv hr hS (fun q _ h => hF q h) hF (fun u t H1 locs1 ht _ hpo hB _ hk1 hS1 => ?_)
  obtain ⟨hP1, hD1⟩ := hB
  rw [ht] at hP1
  obtain ⟨hP2, hD2⟩ := va_join hP hD isC isR hC hR hn hdis hk1 hF hP1 hD1
  exact kk u H1 locs1 hpo (hP2.sub perm (fm_of (hw u))) (hD2.sub perm hnp (hw u)) hS1
end FR
