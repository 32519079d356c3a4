/-! the uses that are kept -/
abbrev kU (K : List Us) (j : Nat) : Us := K.getD j (0, [])
abbrev kO (K : List Us) (j : Nat) : Nat := (kU K j).1
abbrev kL (K : List Us) (j : Nat) : Nat := (srt (cn (kU K j)) 12).length
abbrev kA (K : List Us) (j p : Nat) : Nat := gA (cn (kU K j)) p
abbrev kS (Os : Nat → Nat → Nat) (C : Nat → Nat) (K : List Us) (j : Nat) : Nat := uP C (kU K j) - uC Os C (kU K j)
abbrev kT (t : Nat → Nat) (K : List Us) (j : Nat) : Nat := stp t (kU K j)
def chK (K : List Us) (a : Nat) : List Nat := (List.range K.length).filter (fun j => decide (gA (cn (kU K j)) 0 = a))
def repC (Os : Nat → Nat → Nat) (C t : Nat → Nat) (υ : St) (K : List Us) : Prop := repU υ K.length (kO K) (kL K) (kA K) (kS Os C K) (kT t K) ∧ ∀ a, a < 12 → chn υ K.length (υ 4 a) (chK K a) ∧ ((chK K a = [] ∧ υ 5 a = -1) ∨ ∃ L j, chK K a = L ++ [j] ∧ υ 5 a = nI j)
def repD (υ : St) (M : List Nat) (st : Nat) : Prop := υ 8 0 = nI st ∧ st < 2 ^ 30 ∧ ∀ x, x < 1024 → ∃ m, υ 7 x = nI m ∧ m ≤ st ∧ (m = st ↔ x ∈ M)
def cdU (t : Nat → Nat) (l : List Nat) : Nat := encN t (fun a => l.count a) 12
def kp1 (Os : Nat → Nat → Nat) (C t : Nat → Nat) (o : Nat) (s : List Us × List Nat) (l : List Nat) : List Us × List Nat := if uC Os C (o, l) < uP C (o, l) ∧ ¬ cdU t l ∈ s.2 then (s.1 ++ [(o, l)], cdU t l :: s.2) else s
theorem kU_l {K : List Us} {u : Us} {j : Nat} (h : j < K.length) : kU (K ++ [u]) j = kU K j := by
  show (K ++ [u]).getD j (0, []) = K.getD j (0, [])
  rw [List.getD_eq_getElem?_getD, List.getD_eq_getElem?_getD, List.getElem?_append_left h]
theorem kU_n {K : List Us} {u : Us} : kU (K ++ [u]) K.length = u := by
  show (K ++ [u]).getD K.length (0, []) = u
  rw [List.getD_eq_getElem?_getD, List.getElem?_append_right (Nat.le_refl _), Nat.sub_self]
  rfl
theorem kU_mem {K : List Us} {j : Nat} (h : j < K.length) : kU K j ∈ K := by
  show K.getD j (0, []) ∈ K
  rw [List.getD_eq_getElem?_getD, List.getElem?_eq_getElem h]
  exact List.getElem_mem h
theorem chK_snoc (K : List Us) (u : Us) (b : Nat) : chK (K ++ [u]) b = chK K b ++ (if gA (cn u) 0 = b then [K.length] else []) := by
  unfold chK
  rw [List.length_append, List.length_singleton, List.range_succ, List.filter_append]
  have h1 : List.filter (fun j => decide (gA (cn (kU (K ++ [u]) j)) 0 = b)) (List.range K.length) = List.filter (fun j => decide (gA (cn (kU K j)) 0 = b)) (List.range K.length) := List.filter_congr (fun j hj => by
    rw [kU_l (List.mem_range.mp hj)])
  have h2 : List.filter (fun j => decide (gA (cn (kU (K ++ [u]) j)) 0 = b)) [K.length] = (if gA (cn u) 0 = b then [K.length] else []) := by
    rw [List.filter_cons, kU_n, List.filter_nil]
    by_cases h : gA (cn u) 0 = b
    · rw [if_pos h, if_pos (decide_eq_true h)]
    · rw [if_neg h, if_neg (by rw [decide_eq_true_iff]; exact h)]
  rw [h1, h2]
theorem chK_lt {K : List Us} {a j : Nat} (h : j ∈ chK K a) : j < K.length ∧ gA (cn (kU K j)) 0 = a := by
  obtain ⟨h1, h2⟩ := List.mem_filter.mp h
  exact ⟨List.mem_range.mp h1, of_decide_eq_true h2⟩
theorem chK_mem {K : List Us} {a j : Nat} (h : j < K.length) (h2 : gA (cn (kU K j)) 0 = a) : j ∈ chK K a := List.mem_filter.mpr ⟨List.mem_range.mpr h, decide_eq_true h2⟩
theorem chK_nodup (K : List Us) (a : Nat) : (chK K a).Nodup := List.Nodup.sublist List.filter_sublist List.nodup_range
theorem neM {a : Nat} (ha : a < 2 ^ 31) : ¬ nI a = -1 := by
  intro h
  have h1 := congrArg Int32.toInt h
  rw [nI_toInt (by omega)] at h1
  have h2 : ((-1 : Int32)).toInt = -1 := by decide
  rw [h2] at h1
  omega
theorem chn_congr {υ w : St} {z : Nat} : ∀ (L : List Nat) (x : Int32), (∀ i ∈ L, w 3 i = υ 3 i) → chn υ z x L → chn w (z + 1) x L := by
  intro L
  induction L with
  | nil => intro x _ h; exact h
  | cons j r ih =>
    intro x h hc
    obtain ⟨h1, h2, h3⟩ := hc
    refine ⟨h1, by omega, ?_⟩
    rw [h j List.mem_cons_self]
    exact ih _ (fun i hi => h i (List.mem_cons_of_mem _ hi)) h3
theorem chn_snoc {υ w : St} {z j : Nat} (hz : w 3 z = -1) (hj : w 3 j = nI z) : ∀ (L : List Nat) (x : Int32), (∀ i ∈ L, w 3 i = υ 3 i) → chn υ z x (L ++ [j]) → chn w (z + 1) x (L ++ [j] ++ [z]) := by
  intro L
  induction L with
  | nil =>
    intro x _ hc
    obtain ⟨h1, h2, h3⟩ := hc
    exact ⟨h1, by omega, hj, by omega, hz⟩
  | cons i r ih =>
    intro x h hc
    obtain ⟨h1, h2, h3⟩ := hc
    refine ⟨h1, by omega, ?_⟩
    rw [h i List.mem_cons_self]
    exact ih _ (fun i hi => h i (List.mem_cons_of_mem _ hi)) h3
theorem repC_snoc {Os : Nat → Nat → Nat} {C t : Nat → Nat} {υ w : St} {K : List Us} (h : repC Os C t υ K) (u : Us) (h6 : u.1 < 6) (hl : (srt (cn u) 12).length ≤ 4) (hs1 : uP C u - uC Os C u ≤ 1000000) (hs2 : stp t u < 1000000) (hz : K.length < 1260)
    (w9 : w 9 0 = nI (K.length + 1)) (wj : ∀ d, d < 3 → ∀ j, j ≠ K.length → w d j = υ d j) (w0 : w 0 K.length = nI (pkd u.1 (srt (cn u) 12).length (gA (cn u) 0) (gA (cn u) 1) (gA (cn u) 2) (gA (cn u) 3))) (w1 : w 1 K.length = nI (uP C u - uC Os C u)) (w2 : w 2 K.length = nI (stp t u))
    (w5 : w 5 (gA (cn u) 0) = nI K.length) (wb : ∀ b, b ≠ gA (cn u) 0 → w 5 b = υ 5 b ∧ w 4 b = υ 4 b) (w3 : w 3 K.length = -1)
    (hw : (υ 5 (gA (cn u) 0) = -1 ∧ w 4 (gA (cn u) 0) = nI K.length ∧ ∀ i, i ≠ K.length → w 3 i = υ 3 i) ∨ (∃ j, j < K.length ∧ υ 5 (gA (cn u) 0) = nI j ∧ w 4 (gA (cn u) 0) = υ 4 (gA (cn u) 0) ∧ w 3 j = nI K.length ∧ ∀ i, i ≠ K.length → i ≠ j → w 3 i = υ 3 i)) : repC Os C t w (K ++ [u]) := by
  obtain ⟨⟨h9, hz2, hall⟩, hch⟩ := h
  have hlen : (K ++ [u]).length = K.length + 1 := by rw [List.length_append, List.length_singleton]
  refine ⟨⟨by rw [hlen]; exact w9, by rw [hlen]; omega, fun j hj => ?_⟩, fun a ha => ?_⟩
  · rw [hlen] at hj
    by_cases e : j = K.length
    · subst e
      show w 0 K.length = nI (pkd (kU (K ++ [u]) K.length).1 (srt (cn (kU (K ++ [u]) K.length)) 12).length (gA (cn (kU (K ++ [u]) K.length)) 0) (gA (cn (kU (K ++ [u]) K.length)) 1) (gA (cn (kU (K ++ [u]) K.length)) 2) (gA (cn (kU (K ++ [u]) K.length)) 3)) ∧ okP (kU (K ++ [u]) K.length).1 (srt (cn (kU (K ++ [u]) K.length)) 12).length (gA (cn (kU (K ++ [u]) K.length)) 0) (gA (cn (kU (K ++ [u]) K.length)) 1) (gA (cn (kU (K ++ [u]) K.length)) 2) (gA (cn (kU (K ++ [u]) K.length)) 3) ∧ w 1 K.length = nI (uP C (kU (K ++ [u]) K.length) - uC Os C (kU (K ++ [u]) K.length)) ∧ w 2 K.length = nI (stp t (kU (K ++ [u]) K.length)) ∧ uP C (kU (K ++ [u]) K.length) - uC Os C (kU (K ++ [u]) K.length) ≤ 1000000 ∧ stp t (kU (K ++ [u]) K.length) < 1000000
      rw [kU_n]
      exact ⟨w0, ⟨h6, hl, gA_lt 0, gA_lt 1, gA_lt 2, gA_lt 3⟩, w1, w2, hs1, hs2⟩
    · have hj2 : j < K.length := by omega
      have h1 := hall j hj2
      have e1 : kU (K ++ [u]) j = kU K j := kU_l hj2
      show w 0 j = nI (pkd (kU (K ++ [u]) j).1 (srt (cn (kU (K ++ [u]) j)) 12).length (gA (cn (kU (K ++ [u]) j)) 0) (gA (cn (kU (K ++ [u]) j)) 1) (gA (cn (kU (K ++ [u]) j)) 2) (gA (cn (kU (K ++ [u]) j)) 3)) ∧ okP (kU (K ++ [u]) j).1 (srt (cn (kU (K ++ [u]) j)) 12).length (gA (cn (kU (K ++ [u]) j)) 0) (gA (cn (kU (K ++ [u]) j)) 1) (gA (cn (kU (K ++ [u]) j)) 2) (gA (cn (kU (K ++ [u]) j)) 3) ∧ w 1 j = nI (uP C (kU (K ++ [u]) j) - uC Os C (kU (K ++ [u]) j)) ∧ w 2 j = nI (stp t (kU (K ++ [u]) j)) ∧ uP C (kU (K ++ [u]) j) - uC Os C (kU (K ++ [u]) j) ≤ 1000000 ∧ stp t (kU (K ++ [u]) j) < 1000000
      rw [e1, wj 0 (by omega) j e, wj 1 (by omega) j e, wj 2 (by omega) j e]
      exact h1
  · obtain ⟨c1, c2⟩ := hch a ha
    rw [hlen, chK_snoc]
    by_cases e : gA (cn u) 0 = a
    · rw [if_pos e]
      rw [e] at hw w5
      refine ⟨?_, Or.inr ⟨chK K a, K.length, rfl, w5⟩⟩
      rcases hw with ⟨g1, g2, g3⟩ | ⟨j, hj, g1, g2, g3, g4⟩
      · rcases c2 with ⟨c3, -⟩ | ⟨L, j, c3, c4⟩
        · rw [c3, g2]
          exact ⟨rfl, by omega, w3⟩
        · have : j < K.length := (chK_lt (K := K) (a := a) (by rw [c3]; exact List.mem_append.mpr (Or.inr List.mem_cons_self))).1
          exact absurd (c4.symm.trans g1) (neM (by omega))
      · rcases c2 with ⟨-, c4⟩ | ⟨L, j2, c3, c4⟩
        · exact absurd (g1.symm.trans c4) (neM (by omega))
        · have hj2 : j2 < K.length := (chK_lt (K := K) (a := a) (by rw [c3]; exact List.mem_append.mpr (Or.inr List.mem_cons_self))).1
          have : j2 = j := (eqL (by omega) (by omega)).mp (c4.symm.trans g1)
          subst this
          have hnd := chK_nodup K a
          rw [c3] at c1 hnd ⊢
          rw [g2]
          refine chn_snoc w3 g3 L _ (fun i hi => g4 i ?_ ?_) c1
          · have : i < K.length := (chK_lt (K := K) (a := a) (by rw [c3]; exact List.mem_append.mpr (Or.inl hi))).1
            omega
          · intro e2
            subst e2
            rw [List.nodup_append] at hnd
            exact hnd.2.2 i hi i List.mem_cons_self rfl
    · rw [if_neg e, List.append_nil]
      obtain ⟨b5, b4⟩ := wb a (fun h => e h.symm)
      rw [b5, b4]
      refine ⟨chn_congr _ _ (fun i hi => ?_) c1, c2⟩
      obtain ⟨i1, i2⟩ := chK_lt hi
      rcases hw with ⟨g1, g2, g3⟩ | ⟨j, hj, g1, g2, g3, g4⟩
      · exact g3 i (by omega)
      · refine g4 i (by omega) ?_
        intro e2
        subst e2
        rcases (hch (gA (cn u) 0) (gA_lt 0)).2 with ⟨-, c4⟩ | ⟨L, j2, c3, c4⟩
        · exact absurd (g1.symm.trans c4) (neM (by omega))
        · have hm : j2 ∈ chK K (gA (cn u) 0) := by rw [c3]; exact List.mem_append.mpr (Or.inr List.mem_cons_self)
          obtain ⟨q1, q2⟩ := chK_lt hm
          have : j2 = i := (eqL (by omega) (by omega)).mp (c4.symm.trans g1)
          subst this
          exact e (q2.symm.trans i2)
