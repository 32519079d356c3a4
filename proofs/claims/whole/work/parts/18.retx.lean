/-! ends of methods that may throw -/
section XR
variable {p : Program} {l : Launch} {e : Env} {R : Room} {s : State} {m : MethodId} {args : Array Value} {below : List Frame} {meth : Method} {c : Code} {H : Heap} {locs : List Loc} {cells slots : Nat} {Q Q2 : State → Prop} {cc : ByteArray} {nL pc : Nat} {ls : Array Slot} {D : va_G} {k : Nat → ClassId} {own : String} {ret : Option FieldType} {A : Nat → Prop} {S : Type} {wf : S → va_W} {post : Option Value → S → Prop} {xp : String → S → Prop} {g : JFrame}
theorem Wmono (h : W p l e R s m args below meth c H locs cells slots Q g) (hq : ∀ t, Q t → Q2 t) : W p l e R s m args below meth c H locs cells slots Q2 g := fun T hT X => by
  obtain ⟨t, a, b⟩ := h T hT X
  exact ⟨t, a, hq t b⟩
theorem endX {v : Option Value} {u : S} {mc ms : Nat} (hP : va_P D CL (wf u) H) (hD : va_D A (wf u)) (hS : va_S A s.heap H locs) (hp : post v u)
    (h : W p l e R s m args below meth c H locs mc ms (MQ below (fun _ _ o t => o = .returned v ∧ t.heap = H) args s mc ms A) g) : W p l e R s m args below meth c H locs mc ms (XQ below D A wf post xp s mc ms) g := by
  refine Wmono h (fun t ht => ?_)
  obtain ⟨o, h1, h2, ⟨rfl, h4⟩, L, ⟨-, h5, h6⟩, h7⟩ := ht
  exact ⟨_, h1, h2, Or.inl ⟨v, u, L, rfl, hp, by rw [h4]; exact hP, hD, hS.F h4, h5, h6, h7⟩⟩
theorem retX_i {v : Int32} {u : S} {mc ms : Nat} (C : Cx p s m args meth c D k own cc nL (some .int) A) (hP : va_P D CL (wf u) H) (hD : va_D A (wf u)) (hS : va_S A s.heap H locs) (hc : cells ≤ mc) (hs : slots ≤ ms) (hp : post (some (.int v)) u) (hdg : decode cc pc = .ok (.ireturn, 1)) :
    W p l e R s m args below meth c H locs cells slots (XQ below D A wf post xp s mc ms) (F0 m pc ls [.int v]) :=
  W.widen hc hs (endX hP hD hS hp (W.iret C.1 C.2.1 C.2.2.1 (fun t ht _ => ⟨rfl, ht⟩) hS.2.2 hdg C.2.2.2.1))
theorem retX_v {u : S} {mc ms : Nat} (C : Cx p s m args meth c D k own cc nL none A) (hP : va_P D CL (wf u) H) (hD : va_D A (wf u)) (hS : va_S A s.heap H locs) (hc : cells ≤ mc) (hs : slots ≤ ms) (hp : post none u) (hdg : decode cc pc = .ok (.return_, 1)) :
    W p l e R s m args below meth c H locs cells slots (XQ below D A wf post xp s mc ms) (F0 m pc ls []) :=
  W.widen hc hs (endX hP hD hS hp (W.vret C.1 C.2.1 C.2.2.1 (fun t ht _ => ⟨rfl, ht⟩) hS.2.2 hdg C.2.2.2.1))
theorem retX_r {q : Nat} {n : String} {u : S} {mc ms : Nat} (C : Cx p s m args meth c D k own cc nL (some (.object n)) A) (hP : va_P D CL (wf u) H) (hD : va_D A (wf u)) (hS : va_S A s.heap H locs) (hc : cells ≤ mc) (hs : slots ≤ ms) (hp : post (some (.ref q)) u) (hdg : decode cc pc = .ok (.areturn, 1)) :
    W p l e R s m args below meth c H locs cells slots (XQ below D A wf post xp s mc ms) (F0 m pc ls [.ref q]) :=
  W.widen hc hs (endX hP hD hS hp (W.aret C.1 C.2.1 C.2.2.1 (Or.inl ⟨n, rfl⟩) (Or.inr ⟨q, rfl⟩) (fun t ht _ => ⟨rfl, ht⟩) hS.2.2 hdg C.2.2.2.1))
end XR
