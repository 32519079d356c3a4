/-! a heap that has only grown -/
theorem grown {s t : State} {k n : Nat} (h : s.sameButNew t [] k n) : s.heap.size ≤ t.heap.size ∧ ∀ q : Nat, q < s.heap.size → t.heap[q]? = s.heap[q]? := by
  refine ⟨h.2.1, fun q hq => ?_⟩
  have hc : s.heap[q]? = some s.heap[q] := Array.getElem?_eq_getElem hq
  obtain ⟨c', h1, h2, h3, h4⟩ := h.2.2.2.2.2 q _ hc
  rw [h1, hc]
  have h5 : c'.slots = (s.heap[q]).slots := by
    apply Array.ext_getElem?
    intro i
    exact h4 i List.not_mem_nil
  rw [h5] at h2
  rw [h2]
section XT
variable {p : Program} {l : Launch} {e : Env} {R : Room} {s : State} {m : MethodId} {args : Array Value} {below : List Frame} {meth : Method} {c : Code} {H : Heap} {locs : List Loc} {cells slots : Nat} {Q : State → Prop} {cc : ByteArray} {nL pc : Nat} {ls : Array Slot} {D : va_G} {k : Nat → ClassId} {own : String} {ret : Option FieldType} {A : Nat → Prop} {ws : va_W} {S : Type} {wf : S → va_W} {post : Option Value → S → Prop} {xp : String → S → Prop} {rest : List Value}
/-- throw new E("text") in a method without handlers -/
theorem thr {u : S} {E : String} {ik is ic mc ms : Nat} {text : String} (C : Cx p s m args meth c D k "PromotionTill" cc nL ret A) (hX : Xf D A s s.heap) (hlt : l.stackTraces = false) (hcx : c.exceptionTable.isEmpty = true)
    (hok : xOk "PromotionTill" ic E) (hfit : Bundle.fit E = true) (hk : Cond.classLink "PromotionTill" ik E ∈ gw_T) (hini : Cond.initialized E ∈ gw_T) (hst : Cond.stringRef "PromotionTill" is text ∈ xW)
    (hP : va_P D CL (wf u) H) (hD : va_D A (wf u)) (hS : va_S A s.heap H locs) (hls : ls.size = nL)
    (d0 : decode cc pc = .ok (.new ik, 3)) (d3 : decode cc (pc + 3) = .ok (.dup, 1)) (d4 : decode cc (pc + 4) = .ok (.ldc is, 2)) (d6 : decode cc (pc + 6) = .ok (.invokespecial ic, 3)) (d9 : decode cc (pc + 9) = .ok (.athrow, 1))
    (hRf : 5 < R.frames) (hRl : (rest.map fun v => v.category).sum + 82 ≤ R.locals) (hc : cells + 1 ≤ mc) (hs : slots + 6 ≤ ms) (hRc : mc ≤ R.cells) (hRs : ms ≤ R.slots) (hp : xp E u) :
    W p l e R s m args below meth c H locs cells slots (XQ below D A wf post xp s mc ms) (F0 m pc ls rest) := by
  obtain ⟨hx, hb, hr, hlk, hml, hown, hts, hK, hA⟩ := id C
  intro T hT X
  have htr : e.platform.stackTraces = false := (show e.platform.stackTraces = l.stackTraces by rw [X.admits.platform]).trans hlt
  have Y := anew X (R2 := { frames := R.frames, cells := 1, slots := 6, locals := R.locals }) (Nat.le_refl _) (Nat.le_refl _) (Nat.le_trans hc hRc) (Nat.le_trans hs hRs)
  obtain ⟨s', es⟩ : ∃ z, z = (T.setVm s.vm).setFrames (.invoking m args :: below) := ⟨_, rfl⟩
  rw [← es] at Y
  have hvm : s'.vm = s.vm := by rw [es]; rfl
  have hhp : s'.heap = H := by rw [es]; exact hT
  have hW0 : s.WarmedH s'.vm := by rw [hvm]; exact State.WarmedH.refl s
  have hgw : ∀ w ∈ gw_T, w.before args s' = true := fun w hw => pay_in hts (gw_good (fun _ h => h)) w hw args s' hW0
  have hxw : ∀ w ∈ xW, w.before args s' = true := hX.1 s' args hW0 (fun q h1 h2 => by rw [hhp]; exact hS.2.1 q h1 h2)
  have hat : ∀ w ∈ Bundle.ownAtoms "PromotionTill" ic E xN, w.before args s' = true := fun w hw => (hok w hw).elim (hgw w) (hxw w)
  have hown' : s'.vm.findClass "PromotionTill" = some m.cls := by rw [hvm]; exact hown
  have hins : (Cond.instantiable E 6).before args s' = true := hat _ (by simp [Bundle.ownAtoms])
  obtain ⟨vm₁, cX, kX, hfX, hkX, -, -, X₁, st1⟩ := Y.newCold hx (own := "PromotionTill") (C := E) (index := ik) (n := 6) hown' (hgw _ hk) hins (hgw _ hini) (g := F0 m pc ls rest) rfl (by rw [hb]; exact d0) (Nat.le_refl _) (Nat.le_refl _)
  have hcell : ((T.setVm vm₁).pushCell { cls := cX, slots := kX.instanceTypes.map defaultValue, vm := .none }).heap[T.heap.size]? = some (freshCell cX kX) := State.heap_pushCell_size _ _
  have K : W p l e { frames := R.frames, cells := 1, slots := 6, locals := R.locals } s' m args below meth c ((T.setVm vm₁).pushCell { cls := cX, slots := kX.instanceTypes.map defaultValue, vm := .none }).heap [] (0 + 1) (0 + 6) (XQ below D A wf post xp s mc ms) (F0 m (pc + 3) ls (.ref T.heap.size :: rest)) := by
    refine lv_dup hx hb d3 rfl ?_
    intro T2 hT2 X2
    obtain ⟨-, -, -, sa, -, -, -, -, -, hev⟩ := Cond.stringRef_spec hown' (hxw _ hst)
    obtain ⟨U, hsteps, hrun, hend, hW, hsame, ce, hce, hO⟩ := X2.ctorThrowS hx htr (own := "PromotionTill") (cls := E) (names := xN) (ic := ic) hown' hfit xFit hat (fun x hx => nomatch hx) hfX hkX (by rw [hT2]; exact hcell) (by rw [hhp, ← hT]; exact Nat.le_refl _) (msg := .ref sa) rfl
      (g := { method := m, pc := pc + 6, locals := ls, stack := .ref sa :: .ref T.heap.size :: .ref T.heap.size :: rest, locked := none }) rfl (hls.trans hml.symm) rfl rfl (rest := rest) rfl (by rw [hb]; exact d6) (by rw [hb]; exact d9)
      (fun x hx => by rw [Array.isEmpty_iff] at hcx; rw [hcx] at hx; cases hx) (by show 2 + 3 < R.frames; omega) (by show 2 * 0 + (1 + (rest.map fun v => v.category).sum) + (13 * 3 + 42) ≤ R.locals; omega) hlk
    obtain ⟨g1, g2⟩ := grown hsame
    have g1 : H.size ≤ U.heap.size := by rw [← hhp]; exact g1
    have g2 : ∀ q : Nat, q < H.size → U.heap[q]? = H[q]? := fun q hq => by rw [← hhp] at hq ⊢; exact g2 q hq
    refine ⟨U, ?_, .threw T.heap.size, hrun, hend, Or.inr ⟨T.heap.size, E, u, ce, locs, rfl, hp, fun i q hi => (hP i q hi).kept (g2 q.1 (hP i q hi).lt), hD, ⟨Nat.le_trans hS.1 g1, fun q h1 h2 => (g2 q (Nat.lt_of_lt_of_le h1 hS.1)).trans (hS.2.1 q h1 h2)⟩, hce, hO.vm, by rw [← hvm]; exact hO.cls, State.WarmedH.trans hW0 hW, ?_, hS.2.2⟩⟩
    · exact X2.ldcString hx (own := "PromotionTill") (text := text) (index := is) (a := sa) hown' (hxw _ hst) hev (g := F0 m (pc + 4) ls (.ref T.heap.size :: .ref T.heap.size :: rest)) rfl (by rw [hb]; exact d4) _ hsteps
    · obtain ⟨e1, e2⟩ := hsame
      rw [es, State.setFrames_setFrames] at e1
      have h2 : (T.setVm s.vm).sameButNew ({ U with vm := s.vm } : State) [] (0 + 1) (0 + 6) := by
        refine ⟨?_, ?_⟩
        · exact e1
        · rw [es] at e2
          exact e2
      have h3 := X.same.trans h2
      rw [List.append_nil] at h3
      exact h3.mono (by omega) (by omega)
  obtain ⟨t, a1, b1⟩ := K _ rfl X₁
  exact ⟨t, st1 t a1, b1⟩
end XT
