/-! exceptions: contracts of methods that return or throw; the throw; the call that may throw -/
abbrev xN : List String := ["java/lang/RuntimeException", "java/lang/Exception"]
abbrev xTh : String := "java/lang/Throwable"
abbrev xSt : String := "[Ljava/lang/StackTraceElement;"
abbrev xLi : String := "Ljava/util/List;"
abbrev eIA : String := "java/lang/IllegalArgumentException"
abbrev eIS : String := "java/lang/IllegalStateException"
abbrev eIO : String := "java/lang/IndexOutOfBoundsException"
abbrev eUO : String := "java/lang/UnsupportedOperationException"
/-- words that are not among the good ones, but hold wherever the method's own cells alone have changed -/
def xW : List Cond := [.isRef (.static xTh "UNASSIGNED_STACK" xSt), .isRef (.static xTh "SUPPRESSED_SENTINEL" xLi),
  .arrayOver (FieldType.object "PromotionTill$Offer"),
  .methodLinkNest "PromotionTill$Tariff" 27 ⟨"PromotionTill$Offer", "<init>", "()V"⟩ "PromotionTill",
  .methodLinkNest "PromotionTill" 22 ⟨"PromotionTill$Basket", "<init>", "()V"⟩ "PromotionTill",
  .methodLinkNest "PromotionTill" 32 ⟨"PromotionTill$Planner", "<init>", "()V"⟩ "PromotionTill",
  .methodLinkNest "PromotionTill$Planner" 26 ⟨"PromotionTill$Uses", "<init>", "()V"⟩ "PromotionTill",
  .methodLinkNest "PromotionTill" 39 ⟨"PromotionTill$Plan", "<init>", "()V"⟩ "PromotionTill",
  .laysStatic "java/util/ArrayList" "DEFAULTCAPACITY_EMPTY_ELEMENTDATA" "[Ljava/lang/Object;",
  .castable "java/lang/IllegalArgumentException" "java/lang/IllegalArgumentException",
  .declares ⟨"java/lang/RuntimeException", "<init>", "()V"⟩,
  .declares ⟨"java/lang/RuntimeException", "<init>", "(Ljava/lang/String;)V"⟩,
  .declares ⟨"java/lang/Exception", "<init>", "()V"⟩,
  .declares ⟨"java/lang/Exception", "<init>", "(Ljava/lang/String;)V"⟩,
  .declares ⟨"java/lang/Throwable", "<init>", "()V"⟩,
  .declares ⟨"java/lang/Throwable", "<init>", "(Ljava/lang/String;)V"⟩,
  .laysStatic "java/lang/Throwable" "UNASSIGNED_STACK" "[Ljava/lang/StackTraceElement;",
  .laysStatic "java/lang/Throwable" "SUPPRESSED_SENTINEL" "Ljava/util/List;",
  .stringRef "PromotionTill" 220 "an argument is not as it must be",
  .laysStatic "PromotionTill" "PERCENTS" "[I",
  .castable "java/lang/IllegalStateException" "java/lang/IllegalStateException",
  .stringRef "PromotionTill" 228 "the basket is not empty",
  .castable "java/lang/UnsupportedOperationException" "java/lang/UnsupportedOperationException",
  .stringRef "PromotionTill" 109 "the basket has ten units",
  .stringRef "PromotionTill" 124 "the room would not do",
  .castable "java/lang/IndexOutOfBoundsException" "java/lang/IndexOutOfBoundsException",
  .stringRef "PromotionTill" 225 "there is none such",
  .stringRef "PromotionTill" 164 "the basket is empty",
  .stringRef "PromotionTill" 170 "there are twelve receipts",
  .methodLinkNest "PromotionTill$Receipt" 11 ⟨"PromotionTill$Basket", "<init>", "()V"⟩ "PromotionTill",
  .arrayOver (FieldType.object "java/lang/Object"),
  .stringRef "PromotionTill" 194 "the unit was given back before",
  .castable "PromotionTill$Receipt" "PromotionTill$Receipt",
  .declares ⟨"java/lang/Object", "getClass", "()Ljava/lang/Class;"⟩,
  .castable "PromotionTill" "java/lang/Object",
  .castable "PromotionTill$Tariff" "java/lang/Object",
  .castable "PromotionTill$Offer" "java/lang/Object",
  .castable "PromotionTill$Basket" "java/lang/Object",
  .castable "PromotionTill$Planner" "java/lang/Object",
  .castable "PromotionTill$Uses" "java/lang/Object",
  .castable "PromotionTill$Plan" "java/lang/Object",
  .castable "PromotionTillModel" "java/lang/Object",
  .castable "PromotionTill$Receipt" "java/lang/Object",
  .castable "java/lang/String" "java/lang/Object",
  .not (.castable eIS eIA), .not (.castable eUO eIA), .not (.castable eIA eIO), .not (.castable eIA eIS), .not (.castable eUO eIS), .not (.castable eIS eIO), .not (.castable eIO eIA)]
def Xf0 (A : Nat → Prop) (U : State) (H : Heap) : Prop := ∀ (V : State) (a : Array Value), U.WarmedH V.vm → (∀ q : Nat, q < H.size → ¬ A q → V.heap[q]? = H[q]?) → ∀ w ∈ xW, w.before a V = true
/-- the percentages -/
def pcv (j : Nat) : Int32 := if j = 0 then 0 else if j = 1 then 7 else if j = 2 then 19 else 25
/-- the list's first array, and the class of arrays of objects -/
def Ef (D : va_G) (A : Nat → Prop) (U : State) (H : Heap) : Prop := va_Z "java/util/ArrayList" "DEFAULTCAPACITY_EMPTY_ELEMENTDATA" "[Ljava/lang/Object;" (.ref (D.1 10)) A U H ∧ va_T (.object "java/lang/Object") (D.1 10) 0 (fun _ => .null) A U H ∧ va_Mi "[Ljava/lang/Object;" (D.1 11) U
def Pf (D : va_G) (A : Nat → Prop) (U : State) (H : Heap) : Prop := ∃ t : Nat, va_Z "PromotionTill" "PERCENTS" "[I" (.ref t) A U H ∧ va_T .int t 4 (fun j => .int (pcv j)) A U H ∧ Ef D A U H
def Xf (D : va_G) (A : Nat → Prop) (U : State) (H : Heap) : Prop := Xf0 A U H ∧ Pf D A U H
theorem Xf.step {D : va_G} {A B : Nat → Prop} {U V : State} {H H1 : Heap} (h : Xf D A U H) (hW : U.WarmedH V.vm) (hz : H.size ≤ H1.size) (hk : ∀ q : Nat, q < H.size → ¬ A q → H1[q]? = H[q]?) (hAB : ∀ q, B q → A q) : Xf D B V H1 := by
  obtain ⟨h1, t, h2, h3, h4, h5, h6⟩ := h
  refine ⟨fun Z a hZ hq w hw => h1 Z a (State.WarmedH.trans hW hZ) (fun q hl hA => (hq q (Nat.lt_of_lt_of_le hl hz) (fun b => hA (hAB q b))).trans (hk q hl hA)) w hw, t, ?_, ?_, ?_, ?_, va_Mi.moved hW.alike h6⟩
  · exact va_Z.narrow (va_Z.moved hW.alike (va_Z.kept h2 hk)) hAB
  · exact va_T.narrow (va_T.moved hW.alike (va_T.kept h3 hk)) hAB
  · exact va_Z.narrow (va_Z.moved hW.alike (va_Z.kept h4 hk)) hAB
  · exact va_T.narrow (va_T.moved hW.alike (va_T.kept h5 hk)) hAB
/-- an atom of a throw is a good word or one of xW -/
def xOk (own : String) (ic : Nat) (E : String) : Prop := ∀ w ∈ Bundle.ownAtoms own ic E xN, w ∈ gw_T ∨ w ∈ xW
theorem xOk_ia : xOk "PromotionTill" 222 eIA := by
  show ∀ w ∈ Bundle.ownAtoms "PromotionTill" 222 eIA xN, w ∈ gw_T ∨ w ∈ xW
  decide +kernel
theorem xOk_is : xOk "PromotionTill" 166 eIS := by
  show ∀ w ∈ Bundle.ownAtoms "PromotionTill" 166 eIS xN, w ∈ gw_T ∨ w ∈ xW
  decide +kernel
theorem xOk_io : xOk "PromotionTill" 227 eIO := by
  show ∀ w ∈ Bundle.ownAtoms "PromotionTill" 227 eIO xN, w ∈ gw_T ∨ w ∈ xW
  decide +kernel
theorem xOk_uo : xOk "PromotionTill" 111 eUO := by
  show ∀ w ∈ Bundle.ownAtoms "PromotionTill" 111 eUO xN, w ∈ gw_T ∨ w ∈ xW
  decide +kernel
theorem xFit : ∀ n ∈ xN, Bundle.fit n = true := by decide +kernel
/-- how a method that may throw ends -/
def QXr (D : va_G) (A : Nat → Prop) {S : Type} (wf : S → va_W) (post : Option Value → S → Prop) (xp : String → S → Prop) (mc ms : Nat) (st : State) (o : Outcome) (t : State) : Prop :=
  (∃ (v : Option Value) (u : S) (L : List Loc), o = .returned v ∧ post v u ∧ va_P D CL (wf u) t.heap ∧ va_D A (wf u) ∧ va_F A st t ∧ st.WarmedH t.vm ∧ st.sameButNew ({ t with vm := st.vm } : State) L mc ms ∧ ∀ q ∈ L, A q.base)
  ∨ ∃ (q : Addr) (E : String) (u : S) (ce : Cell) (L : List Loc), o = .threw q ∧ xp E u ∧ va_P D CL (wf u) t.heap ∧ va_D A (wf u) ∧ va_F A st t ∧ t.heap[q]? = some ce ∧ ce.vm = .none ∧ st.vm.findClass E = some ce.cls ∧ st.WarmedH t.vm ∧ st.sameButNew ({ t with vm := st.vm } : State) L mc ms ∧ ∀ z ∈ L, A z.base
abbrev xPre (D : va_G) (k : Nat → ClassId) (ws : va_W) (sz : Nat) : State → Prop := fun U => mPre D k ws sz U ∧ Xf D (va_A ws sz) U U.heap
def CX (l : Launch) (D : va_G) (k : Nat → ClassId) (y : MethodName) (b : ByteArray) (n : Nat) (ret : Option FieldType) (rm : Room) (av : List Value) (ws : va_W) {S : Type} (wf : S → va_W) (post : Option Value → S → Prop) (xp : String → S → Prop) : Prop :=
  ∀ sz : Nat, MetFree l y (headSpec (.code y b n ret :: gw_T) rm) (va_Pc av (xPre D k ws sz)) (fun _ _ _ _ _ => True) (fun _ st o t => QXr D (va_A ws sz) wf post xp rm.cells rm.slots st o t)
def XQ (below : List Frame) (D : va_G) (A : Nat → Prop) {S : Type} (wf : S → va_W) (post : Option Value → S → Prop) (xp : String → S → Prop) (s : State) (mc ms : Nat) : State → Prop := fun t => ∃ o, t.status = .running ∧ Ended t below o ∧ QXr D A wf post xp mc ms s o t
theorem CX.of {l : Launch} {D : va_G} {k : Nat → ClassId} {y : MethodName} {b : ByteArray} {n : Nat} {ret : Option FieldType} {rm : Room} {av : List Value} {ws : va_W} {S : Type} {wf : S → va_W} {post : Option Value → S → Prop} {xp : String → S → Prop} (hy : plainName y.cls = true) (hn : (lg_sl av).length ≤ n)
    (body : ∀ (p : Program) (e : Env) (s : State) (m : MethodId) (below : List Frame) (meth : Method) (c : Code) (A : Nat → Prop) (H : Heap) (locs : List Loc) (ls : Array Slot), Cx p s m av.toArray meth c D k y.cls b n ret A → Xf D A s s.heap → c.exceptionTable.isEmpty = true → va_P D CL ws H → va_D A ws → va_S A s.heap H locs → lv_has ls n (lv_args 0 av) →
      W p l e rm s m av.toArray below meth c H locs 0 0 (XQ below D A wf post xp s rm.cells rm.slots) (F0 m 0 ls [])) : CX l D k y b n ret rm av ws wf post xp := by
  intro sz
  refine MetFree.of_bodyS (code := b) (maxLocals := n) (ret := ret) hy ?_ ?_
  · intro args s m h hn
    obtain ⟨meth, c, h1, h2, h3, h4, h5, h6, -, -⟩ := Cond.code_spec hn (atoms_spec (ws := .code y b n ret :: gw_T) h _ List.mem_cons_self)
    exact ⟨meth, c, h1, h2, h3, h4, h5, h6⟩
  · intro p e s m args below meth c s₁ B hml hv _
    obtain ⟨rfl, ⟨hsz, hP, hK, hD0⟩, hX⟩ := hv
    have hts := atoms_spec (ws := .code y b n ret :: gw_T) B.pre
    subst hsz
    have hD := hD0.self (sz := s.heap.size)
    have hh : s₁.heap = s.heap := by rw [B.state]; rfl
    obtain ⟨t, a1, o, b1, b2, b3⟩ := (body p e s m below meth c _ _ _ _ ⟨B.exec, B.bytes, B.returns, B.notSynchronized, hml, findClass_of_methodNamed B.named, fun w h => hts w (List.mem_cons_of_mem _ h), hK, fun q h => Or.inr h⟩ hX (B.noHandlers (hts _ List.mem_cons_self)) hP hD va_S.rf (lv_entry av hn)) s₁ hh (Stand.of_body B)
    refine ⟨t, o, ?_, b1, b2, b3⟩
    rw [lg_entry_eq]
    exact a1
