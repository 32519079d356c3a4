/-! worlds by membership; a call whose cells are the tail of the world; the law's wrapper of finish -/
theorem vP_iff {D : va_G} {ws : va_W} {H : Heap} : va_P D CL ws H ↔ ∀ q ∈ ws, va_at D CL q H := by
  constructor
  · intro h q hq
    obtain ⟨i, hi⟩ := List.mem_iff_getElem?.mp hq
    exact h i q hi
  · intro h i q hi
    exact h q (List.mem_of_getElem? hi)
theorem vD_iff {A : Nat → Prop} {ws : va_W} : va_D A ws ↔ (ws.map (fun q => q.1)).Nodup ∧ ∀ q ∈ ws, A q.1 := by
  constructor
  · intro h
    refine ⟨?_, fun q hq => ?_⟩
    · rw [List.Nodup, List.pairwise_iff_getElem]
      intro i j hi hj hij he
      rw [List.getElem_map, List.getElem_map] at he
      rw [List.length_map] at hi hj
      have := h.1 i j _ _ (List.getElem?_eq_getElem hi) (List.getElem?_eq_getElem hj) he
      omega
    · obtain ⟨i, hi⟩ := List.mem_iff_getElem?.mp hq
      exact h.2 i q hi
  · intro h
    refine ⟨fun i j p q hi hj he => ?_, fun i q hi => h.2 q (List.mem_of_getElem? hi)⟩
    obtain ⟨li, ei⟩ := List.getElem?_eq_some_iff.mp hi
    obtain ⟨lj, ej⟩ := List.getElem?_eq_some_iff.mp hj
    have hn := h.1
    rw [List.Nodup, List.pairwise_iff_getElem] at hn
    rcases Nat.lt_trichotomy i j with hl | hl | hl
    · exact absurd (by rw [List.getElem_map, List.getElem_map, ei, ej]; exact he) (hn i j (by rw [List.length_map]; exact li) (by rw [List.length_map]; exact lj) hl)
    · exact hl
    · exact absurd (by rw [List.getElem_map, List.getElem_map, ei, ej]; exact he.symm) (hn j i (by rw [List.length_map]; exact lj) (by rw [List.length_map]; exact li) hl)
theorem vP_perm {D : va_G} {ws ws2 : va_W} {H : Heap} (hp : ws.Perm ws2) (h : va_P D CL ws H) : va_P D CL ws2 H :=
  vP_iff.mpr (fun q hq => vP_iff.mp h q (hp.mem_iff.mpr hq))
theorem vD_perm {A : Nat → Prop} {ws ws2 : va_W} (hp : ws.Perm ws2) (h : va_D A ws) : va_D A ws2 := by
  obtain ⟨h1, h2⟩ := vD_iff.mp h
  exact vD_iff.mpr ⟨(hp.map _).nodup_iff.mp h1, fun q hq => h2 q (hp.mem_iff.mpr hq)⟩
theorem Jn.front {D : va_G} {A : Nat → Prop} {H H0 : Heap} {locs : List Loc} {wc wr : va_W} {S : Type} {wf : S → va_W} (hP : va_P D CL (wr ++ wc) H) (hD : va_D A (wr ++ wc)) (hS : va_S A H0 H locs) (hA : ∀ q, H0.size ≤ q → A q) : Jn D A H wc wf (fun u => wr ++ wf u) := by
  have hp := vP_iff.mp hP
  obtain ⟨d1, d2⟩ := vD_iff.mp hD
  rw [List.map_append, List.nodup_append] at d1
  obtain ⟨d3, d4, d5⟩ := d1
  have hF : ∀ q, va_A wc H.size q → A q := by
    intro q hq
    rcases hq with ⟨i, e, hi⟩ | hq
    · exact d2 (q, e) (List.mem_append_right _ (List.mem_of_getElem? hi))
    · exact hA q (Nat.le_trans hS.1 hq)
  have hout : ∀ q ∈ wr, ¬ va_A wc H.size q.1 := by
    intro q hq hh
    rcases hh with ⟨i, e, hi⟩ | hh
    · exact d5 q.1 (List.mem_map.mpr ⟨q, hq, rfl⟩) q.1 (List.mem_map.mpr ⟨(q.1, e), List.mem_of_getElem? hi, rfl⟩) rfl
    · exact absurd (hp q (List.mem_append_left _ hq)).lt (Nat.not_lt.mpr hh)
  refine ⟨hF, vP_iff.mpr (fun q hq => hp q (List.mem_append_right _ hq)), vD_iff.mpr ⟨d4, fun q hq => d2 q (List.mem_append_right _ hq)⟩, fun u H1 hk hP1 hD1 => ⟨vP_iff.mpr (fun q hq => ?_), vD_iff.mpr ⟨?_, fun q hq => ?_⟩⟩⟩
  · rcases List.mem_append.mp hq with h | h
    · have h1 := hp q (List.mem_append_left _ h)
      exact h1.kept (hk q.1 h1.lt (hout q h))
    · exact vP_iff.mp hP1 q h
  · obtain ⟨e1, e2⟩ := vD_iff.mp hD1
    rw [List.map_append, List.nodup_append]
    refine ⟨d3, e1, ?_⟩
    intro a ha b hb hab
    obtain ⟨qa, ha1, rfl⟩ := List.mem_map.mp ha
    obtain ⟨qb, hb1, rfl⟩ := List.mem_map.mp hb
    have := e2 qb hb1
    rw [← hab] at this
    exact hout qa ha1 this
  · rcases List.mem_append.mp hq with h | h
    · exact d2 q (List.mem_append_left _ h)
    · exact hF q.1 ((vD_iff.mp hD1).2 q h)
theorem Jn.perm {D : va_G} {A : Nat → Prop} {H H0 : Heap} {locs : List Loc} {ws wc wr : va_W} {S : Type} {wf wn : S → va_W} (hP : va_P D CL ws H) (hD : va_D A ws) (hS : va_S A H0 H locs) (hA : ∀ q, H0.size ≤ q → A q) (hp : ws.Perm (wr ++ wc)) (hw : ∀ u, (wr ++ wf u).Perm (wn u)) : Jn D A H wc wf wn := by
  obtain ⟨h1, h2, h3, h4⟩ := Jn.front (wf := wf) (vP_perm hp hP) (vD_perm hp hD) hS hA
  exact ⟨h1, h2, h3, fun u H1 hk hP1 hD1 => ⟨vP_perm (hw u) (h4 u H1 hk hP1 hD1).1, vD_perm (hw u) (h4 u H1 hk hP1 hD1).2⟩⟩
