/-! calls in a world with a tail of any length -/
theorem tail_P {D : va_G} {X Y tl : va_W} {H : Heap} (il : List Nat) (hs : il.map (fun i => X[i]?) = Y.map some) (h : va_P D CL (X ++ tl) H) : va_P D CL (Y ++ tl) H := by
  have h1 := vP_iff.mp h
  have h2 : va_P D CL Y H := va_P.sub (ws := X) (vP_iff.mpr (fun q hq => h1 q (List.mem_append_left _ hq))) il (fm_of hs)
  refine vP_iff.mpr (fun q hq => ?_)
  rcases List.mem_append.mp hq with a | a
  · exact vP_iff.mp h2 q a
  · exact h1 q (List.mem_append_right _ a)
theorem tail_mem {X Y : va_W} (il : List Nat) (hs : il.map (fun i => X[i]?) = Y.map some) : ∀ q ∈ Y, q ∈ X := by
  intro q hq
  have : some q ∈ il.map (fun i => X[i]?) := by rw [hs]; exact List.mem_map.mpr ⟨q, hq, rfl⟩
  obtain ⟨i, -, hi⟩ := List.mem_map.mp this
  exact List.mem_of_getElem? hi
theorem tail_D {A : Nat → Prop} {X Y tl : va_W} (il : List Nat) (hn : va_nd il = true) (hs : il.map (fun i => X[i]?) = Y.map some) (h : va_D A (X ++ tl)) : va_D A (Y ++ tl) := by
  obtain ⟨d1, d2⟩ := vD_iff.mp h
  rw [List.map_append, List.nodup_append] at d1
  obtain ⟨d3, d4, d5⟩ := d1
  have h2 : va_D A Y := va_D.sub (ws := X) (vD_iff.mpr ⟨d3, fun q hq => d2 q (List.mem_append_left _ hq)⟩) il hn hs
  obtain ⟨e1, e2⟩ := vD_iff.mp h2
  have hm := tail_mem il hs
  refine vD_iff.mpr ⟨?_, fun q hq => ?_⟩
  · rw [List.map_append, List.nodup_append]
    refine ⟨e1, d4, fun a ha b hb hab => ?_⟩
    obtain ⟨qa, ha1, rfl⟩ := List.mem_map.mp ha
    exact d5 qa.1 (List.mem_map.mpr ⟨qa, hm qa ha1, rfl⟩) b hb hab
  · rcases List.mem_append.mp hq with a | a
    · exact e2 q a
    · exact d2 q (List.mem_append_right _ a)
/-- the callee's cells among the first; the tail stays -/
theorem Jn.partT {D : va_G} {A : Nat → Prop} {H H0 : Heap} {locs : List Loc} {X wc wr tl : va_W} {S : Type} {wf wn : S → va_W} (hP : va_P D CL (X ++ tl) H) (hD : va_D A (X ++ tl)) (hS : va_S A H0 H locs) (hA : ∀ q, H0.size ≤ q → A q) (isC isR perm : List Nat) (hC : isC.map (fun i => X[i]?) = wc.map some) (hR : isR.map (fun i => X[i]?) = wr.map some) (hn : va_nd (isR ++ isC) = true) (hw : ∀ u, perm.map (fun i => (wr ++ wf u)[i]?) = (wn u).map some) (hnp : va_nd perm = true) : Jn D A H wc wf (fun u => wn u ++ tl) := by
  have hs : (isR ++ isC).map (fun i => X[i]?) = (wr ++ wc).map some := by rw [List.map_append, List.map_append, hC, hR]
  have hP1 := tail_P (isR ++ isC) hs hP
  have hD1 := tail_D (isR ++ isC) hn hs hD
  have pm : ∀ w : va_W, ((wr ++ w) ++ tl).Perm ((tl ++ wr) ++ w) := fun w => by
    rw [List.append_assoc tl wr w]
    exact List.perm_append_comm
  obtain ⟨j1, j2, j3, j4⟩ := Jn.front (wf := wf) (vP_perm (pm wc) hP1) (vD_perm (pm wc) hD1) hS hA
  refine ⟨j1, j2, j3, fun u H1 hk hPu hDu => ?_⟩
  obtain ⟨r1, r2⟩ := j4 u H1 hk hPu hDu
  exact ⟨tail_P perm (hw u) (vP_perm (pm (wf u)).symm r1), tail_D perm hnp (hw u) (vD_perm (pm (wf u)).symm r2)⟩
