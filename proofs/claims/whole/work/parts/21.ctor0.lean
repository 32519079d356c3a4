/-! constructors: calls, new arrays, addresses -/
abbrev adr (l : List Nat) : Nat → Nat := fun i => l.getD i 0
abbrev z0 : St := fun _ _ => 0
theorem arrV_congr {cA : ClassId} {n : Nat} {f f2 : Nat → Value} (h : ∀ i, i < n → f i = f2 i) : arrV cA n f = arrV cA n f2 := by
  unfold arrV
  congr 1
  apply Array.ext
  · simp
  · intro i h1 h2
    simp at h1 ⊢
    exact h i h1
section XC
variable {p : Program} {l : Launch} {e : Env} {R : Room} {s : State} {m : MethodId} {args : Array Value} {below : List Frame} {meth : Method} {c : Code} {H : Heap} {locs : List Loc} {cells slots : Nat} {Q : State → Prop} {cc : ByteArray} {nL pc : Nat} {ls : Array Slot} {D : va_G} {k : Nat → ClassId} {own host : String} {ret : Option FieldType} {A : Nat → Prop} {ws wc : va_W} {S : Type} {wf wn : S → va_W} {post : Option Value → S → Prop} {rest As : List Value} {y : MethodName} {b2 : ByteArray} {n2 np index q : Nat} {rm : Room}
/-- invokespecial of a constructor -/
theorem callXI (C : Cx p s m args meth c D k own cc nL ret A) (hX : Xf D A s s.heap) (hS : va_S A s.heap H locs) (hJ : Jn D A H wc wf wn) (hM : CX l D k y b2 n2 none rm (.ref q :: As) wc wf post (fun _ _ => False))
    (w1 : Cond.methodLink own index y ∈ gw_T ∨ ∃ host, Cond.methodLinkNest own index y host ∈ xW) (w2 : Cond.instanceMethod y ∈ gw_T) (w4 : Cond.initialized y.cls ∈ gw_T) (w5 : Cond.code y b2 n2 none ∈ gw_T) (hy1 : y.name = "<init>")
    (hd : y.cls ≠ "java/lang/invoke/MethodHandle" ∧ y.cls ≠ "java/lang/invoke/VarHandle" ∧ (parseMethodDescriptor y.desc).map (fun d => d.parameters.length) = some np) (hnp : As.length = np)
    (hR : rm.frames + 1 ≤ R.frames ∧ 8 + (n2 + 11) + rm.locals ≤ R.locals) (hcs : cells + rm.cells ≤ R.cells ∧ slots + rm.slots ≤ R.slots) (hls : ls.size = nL) (hrest : (rest.map fun v => v.category).sum ≤ 8) (hdg : decode cc pc = .ok (.invokespecial index, 3))
    (kr : ∀ (u : S) (H : Heap) (locs : List Loc), (∃ v, post v u ∧ v = none) → va_P D CL (wn u) H → va_D A (wn u) → va_S A s.heap H locs → W p l e R s m args below meth c H locs (cells + rm.cells) (slots + rm.slots) Q (F0 m (pc + 3) ls rest)) (hv : ∀ v u, post v u → v = none) :
    W p l e R s m args below meth c H locs cells slots Q (F0 m pc ls (As.reverse ++ .ref q :: rest)) := by
  obtain ⟨hx, hb, hr, hlk, hml, hown, hts, hK, hA⟩ := id C
  intro T hT X
  have hpl : e.platform.magicAccessors = ({} : Platform).magicAccessors := by rw [X.admits.platform]
  have hlen : ∀ sig, parseMethodDescriptor y.desc = some sig → As.length = sig.parameters.length := by
    intro sig h
    have h2 := hd.2.2
    rw [h] at h2
    exact hnp.trans (Option.some.inj h2).symm
  have hF := hJ.1
  have fin : ∀ (mk : MethodId) (vm₁ : Vm), s.methodNamed? y = some mk → s.WarmedH vm₁ → (∀ target, (∀ acts, Steps p.tables e below (doInvoke e ((T.setVm vm₁).setTop (F0 m pc ls rest)) acts mk (.ref q :: As).toArray).1 target) → Steps p.tables e below (T.setTop (F0 m pc ls (As.reverse ++ .ref q :: rest))) target) → Stand p l e R s m args below meth c (T.setVm vm₁) locs cells slots → ∃ t, Steps p.tables e below (T.setTop (F0 m pc ls (As.reverse ++ .ref q :: rest))) t ∧ Q t := by
    intro mk vm₁ hnamed hW₁ st X₁
    rcases coreX X₁ hT hts (g := F0 m pc ls rest) rfl (hls.trans hml.symm) (by rw [hb]; exact hdg) (lv_room hrest) (X₁.named hnamed) (hM H.size) w4 w5 hR hcs (preX (T := T) hK hX hS hJ hT X₁.warmed) with ⟨v, u, L, T', X', hpo, hP1, hD1, hz, hk, hL, hst⟩ | ⟨q, E, u, ce, L, T', X', hpo, -⟩
    · obtain ⟨hP2, hD2⟩ := hJ.2.2.2 u _ hk hP1 hD1
      have hv0 := hv v u hpo
      subst hv0
      obtain ⟨t, a1, b1⟩ := kr u _ _ ⟨_, hpo, rfl⟩ hP2 hD2 (behind hS hF hz hk hL) T' rfl X'
      exact ⟨t, st t (fun acts => by rw [doInvoke_state]; exact hst.trans a1), b1⟩
    · exact hpo.elim
  rcases w1 with w1 | ⟨host, w1⟩
  · obtain ⟨mk, methM, cM, kP, vm₁, hnamed, hmethM, hcodeM, -, hlocalsM, -, hkP, -, hW₁, hstep₁⟩ := Steps.initColdArgs (e := e) X.here hx X.warmed hpl hown hy1 ⟨hd.1, hd.2.1⟩ (hts _ w1) (hts _ w2) (hts _ w5) (f := F0 m pc ls (As.reverse ++ .ref q :: rest)) rfl hlen rfl (by rw [hb]; exact hdg)
    exact fin mk vm₁ hnamed (X.noted hW₁).warmed hstep₁ (X.noted hW₁)
  · have hxw : (Cond.methodLinkNest own index y host).before args s = true := hX.1 s args (State.WarmedH.refl s) (fun _ _ _ => rfl) _ w1
    obtain ⟨mk, methM, cM, kP, vm₁, hnamed, hmethM, hcodeM, -, hlocalsM, -, hkP, -, hW₁, hstep₁⟩ := Steps.initColdArgsNest (e := e) X.here hx X.warmed hpl hown hy1 ⟨hd.1, hd.2.1⟩ hxw (hts _ w2) (hts _ w5) (f := F0 m pc ls (As.reverse ++ .ref q :: rest)) rfl hlen rfl (by rw [hb]; exact hdg)
    exact fin mk vm₁ hnamed (X.noted hW₁).warmed hstep₁ (X.noted hW₁)
/-- the class of a kind of arrays is one -/
theorem one_class {cA : ClassId} {ty : FieldType} (h1 : va_K D CL (TY k ++ [(cA, ty)]) s) (i : Nat) (h2 : (TY k)[i]? = some (k i, ty)) : cA = k i := by
  have a1 := (h1.2 5 (cA, ty) rfl).2
  have a2 := (h1.2 i (k i, ty) (by rw [List.getElem?_append_left (List.getElem?_eq_some_iff.mp h2).1]; exact h2)).2
  cases ty with
  | object n =>
    obtain ⟨-, -, -, -, -, b1⟩ := a1
    obtain ⟨-, -, -, -, -, b2⟩ := a2
    exact Option.some.inj (b1.symm.trans b2)
  | _ => exact Option.some.inj (a1.symm.trans a2)
end XC
