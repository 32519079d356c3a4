/-! contracts without a throw, as contracts that might -/
theorem CX.ofCi {l : Launch} {D : va_G} {k : Nat → ClassId} {y : MethodName} {b : ByteArray} {n : Nat} {ret : FieldType} {rm : Room} {av : List Value} {ws : va_W} {S : Type} {wf : S → va_W} {post : Int32 → S → Prop} (h : Ci l D k y b n ret rm av ws wf post) : CX l D k y b n (some ret) rm av ws wf (fun v u => ∃ r : Int32, v = some (.int r) ∧ post r u) (fun _ _ => False) := by
  intro sz
  refine MetFree.mono (h sz) (fun a s hh => ?_) (fun _ _ _ _ _ h => h) (fun a s o t hp hq => ?_)
  · obtain ⟨h1, h2, -⟩ := hh
    exact ⟨h1, h2⟩
  · obtain ⟨⟨⟨r, u, ho, hpo, hP, hD⟩, hF⟩, L, ⟨-, h5, h6⟩, h7⟩ := hq
    exact Or.inl ⟨some (.int r), u, L, ho, ⟨r, rfl, hpo⟩, hP, hD, hF, h5, h6, h7⟩
theorem CX.ofCv {l : Launch} {D : va_G} {k : Nat → ClassId} {y : MethodName} {b : ByteArray} {n : Nat} {rm : Room} {av : List Value} {ws : va_W} {S : Type} {wf : S → va_W} {post : S → Prop} (h : Cv l D k y b n rm av ws wf post) : CX l D k y b n none rm av ws wf (fun v u => v = none ∧ post u) (fun _ _ => False) := by
  intro sz
  refine MetFree.mono (h sz) (fun a s hh => ?_) (fun _ _ _ _ _ h => h) (fun a s o t hp hq => ?_)
  · obtain ⟨h1, h2, -⟩ := hh
    exact ⟨h1, h2⟩
  · obtain ⟨⟨⟨u, ho, hpo, hP, hD⟩, hF⟩, L, ⟨-, h5, h6⟩, h7⟩ := hq
    exact Or.inl ⟨none, u, L, ho, ⟨rfl, hpo⟩, hP, hD, hF, h5, h6, h7⟩
