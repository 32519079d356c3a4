/-! constructors: entry, new arrays, Object's constructor -/
theorem CX.ofI {l : Launch} {D : va_G} {k : Nat → ClassId} {y : MethodName} {b : ByteArray} {n : Nat} {ret : Option FieldType} {rm : Room} {av : List Value} {ws : va_W} {S : Type} {wf : S → va_W} {post : Option Value → S → Prop} {xp : String → S → Prop} (hy : plainName y.cls = true) (hn : (lg_sl av).length ≤ n) (hyn : y.name = "<init>")
    (body : ∀ (p : Program) (e : Env) (s : State) (m : MethodId) (below : List Frame) (meth : Method) (c : Code) (A : Nat → Prop) (H : Heap) (locs : List Loc) (ls : Array Slot), Cx p s m av.toArray meth c D k y.cls b n ret A → Xf D A s s.heap → c.exceptionTable.isEmpty = true → meth.name = "<init>" → va_P D CL ws H → va_D A ws → va_S A s.heap H locs → lv_has ls n (lv_args 0 av) →
      W p l e rm s m av.toArray below meth c H locs 0 0 (XQ below D A wf post xp s rm.cells rm.slots) (F0 m 0 ls [])) : CX l D k y b n ret rm av ws wf post xp := by
  intro sz
  refine MetFree.of_bodyS (code := b) (maxLocals := n) (ret := ret) hy ?_ ?_
  · intro args s m h hn
    obtain ⟨meth, c, h1, h2, h3, h4, h5, h6, -, -⟩ := Cond.code_spec hn (atoms_spec (ws := .code y b n ret :: gw_T) h _ List.mem_cons_self)
    exact ⟨meth, c, h1, h2, h3, h4, h5, h6⟩
  · intro p e s m args below meth c s₁ B hml hv _
    obtain ⟨rfl, ⟨hsz, hP, hK, hD0⟩, hX⟩ := hv
    have hts := atoms_spec (ws := .code y b n ret :: gw_T) B.pre
    subst hsz
    have hD := hD0.self (sz := s.heap.size)
    have hh : s₁.heap = s.heap := by rw [B.state]; rfl
    obtain ⟨t, a1, o, b1, b2, b3⟩ := (body p e s m below meth c _ _ _ _ ⟨B.exec, B.bytes, B.returns, B.notSynchronized, hml, findClass_of_methodNamed B.named, fun w h => hts w (List.mem_cons_of_mem _ h), hK, fun q h => Or.inr h⟩ hX (B.noHandlers (hts _ List.mem_cons_self)) ((name_of_methodNamed B.named B.method).1.trans hyn) hP hD va_S.rf (lv_entry av hn)) s₁ hh (Stand.of_body B)
    refine ⟨t, o, ?_, b1, b2, b3⟩
    rw [lg_entry_eq]
    exact a1
section XD
variable {p : Program} {l : Launch} {e : Env} {R : Room} {s : State} {m : MethodId} {args : Array Value} {below : List Frame} {meth : Method} {c : Code} {H : Heap} {locs : List Loc} {cells slots : Nat} {Q : State → Prop} {cc : ByteArray} {nL pc : Nat} {ls : Array Slot} {D : va_G} {k : Nat → ClassId} {own host : String} {ret : Option FieldType} {A : Nat → Prop} {ws : va_W} {rest : List Value}
theorem new_a (C : Cx p s m args meth c D k own cc nL ret A) (hP : va_P D CL ws H) (hD : va_D A ws) (hS : va_S A s.heap H locs) {atype : ArrayType} {ty : FieldType} (hty : newarray.typeOf atype = ty) (i : Nat) (hi : (TY k)[i]? = some (k i, ty)) (wA : Cond.arrayClass ty ∈ gw_T)
    {n : Int32} {N' : Nat} {a0 : vp_A} (ha : ∀ cA : ClassId, vp_cell cA a0 = arrV cA N' (fun _ => defaultValue ty)) (hn : ¬ n < 0) (hN : n.toNatClampNeg = N') (hbytes : N' * componentBytes ty ≤ 536870912) (hcells : cells + 1 ≤ R.cells) (hslots : slots + N' ≤ R.slots) (hdg : decode cc pc = .ok (.newarray atype, 2))
    (kk : ∀ (q : Nat) (H : Heap), va_P D CL (ws ++ [(q, .inl (k i, a0))]) H → va_D A (ws ++ [(q, .inl (k i, a0))]) → va_S A s.heap H locs → W p l e R s m args below meth c H locs (cells + 1) (slots + N') Q (F0 m (pc + 2) ls (.ref q :: rest))) :
    W p l e R s m args below meth c H locs cells slots Q (F0 m pc ls (.int n :: rest)) := by
  obtain ⟨hx, hb, hr, hlk, hml, hown, hts, hK, hA⟩ := id C
  refine va_newa hx hb (by rw [hty]; exact hts _ wA) hty hK hP hD hS hA ha hn hN hbytes hcells hslots hdg (fun q cA H1 hK1 hP1 hD1 hS1 => ?_)
  have e1 := one_class hK1 i hi
  subst e1
  exact kk q H1 hP1 hD1 hS1
theorem new_q (C : Cx p s m args meth c D k own cc nL ret A) (hX : Xf D A s s.heap) (hP : va_P D CL ws H) (hD : va_D A ws) (hS : va_S A s.heap H locs) {Cn : String} {index : Nat} (i : Nat) (hi : (TY k)[i]? = some (k i, .object Cn)) (wC : Cond.classLink own index Cn ∈ gw_T) (wA : Cond.arrayOver (.object Cn) ∈ xW)
    {n : Int32} {N' : Nat} (hn : ¬ n < 0) (hN : n.toNatClampNeg = N') (hbytes : N' * 4 ≤ 536870912) (hcells : cells + 1 ≤ R.cells) (hslots : slots + N' ≤ R.slots) (hdg : decode cc pc = .ok (.anewarray index, 3))
    (kk : ∀ (q : Nat) (H : Heap), va_P D CL (ws ++ [(q, .inl (k i, N', .inr (.inr (.inr (.inr (fun _ => none))))))]) H → va_D A (ws ++ [(q, .inl (k i, N', .inr (.inr (.inr (.inr (fun _ => none))))))]) → va_S A s.heap H locs → W p l e R s m args below meth c H locs (cells + 1) (slots + N') Q (F0 m (pc + 3) ls (.ref q :: rest))) :
    W p l e R s m args below meth c H locs cells slots Q (F0 m pc ls (.int n :: rest)) := by
  obtain ⟨hx, hb, hr, hlk, hml, hown, hts, hK, hA⟩ := id C
  refine va_newq hx hb hown (hts _ wC) (hX.1 s #[] (State.WarmedH.refl s) (fun _ _ _ => rfl) _ wA) hK hP hD hS hA hn hN hbytes hcells hslots hdg (fun q cA H1 hK1 hP1 hD1 hS1 => ?_)
  have e1 := one_class hK1 i hi
  subst e1
  exact kk q H1 hP1 hD1 hS1
theorem obj0 (C : Cx p s m args meth c D k own cc nL ret A) {idx : Nat} (w1 : Cond.methodLink own idx ⟨"java/lang/Object", "<init>", "()V"⟩ ∈ gw_T) {a : Nat} (hls : ls.size = nL) (hd : decode cc pc = .ok (.invokespecial idx, 3)) (hf : 1 ≤ R.frames) (hlo : (rest.map fun v => v.category).sum + 12 ≤ R.locals)
    (kk : W p l e R s m args below meth c H locs cells slots Q (F0 m (pc + 3) ls rest)) : W p l e R s m args below meth c H locs cells slots Q (F0 m pc ls (.ref a :: rest)) := by
  obtain ⟨hx, hb, hr, hlk, hml, hown, hts, hK, hA⟩ := id C
  refine W.objInit hx hb hown (hts _ w1) (hts _ kw_32) (hts _ kw_33) (g := F0 m pc ls (.ref a :: rest)) rfl (by rw [hml]; exact hls) rfl hd hf (by show 2 * 0 + _ + 12 ≤ _; omega) ?_
  exact kk
end XD
