/-! the kept uses stand for all uses with a saving, in the same order -/
def sam (u w : Us) : Prop := u.1 = w.1 ∧ ∀ a, a < 12 → u.2.count a = w.2.count a
theorem lowP_congr {C c e : Nat → Nat} : ∀ n, (∀ d, d < n → c d = e d) → lowP C c n = lowP C e n := by
  intro n
  induction n with
  | zero => intro _; rfl
  | succ n ih =>
    intro h
    show (if 0 < c n then (if C n < lowP C c n then C n else lowP C c n) else lowP C c n) = (if 0 < e n then (if C n < lowP C e n then C n else lowP C e n) else lowP C e n)
    rw [ih (fun d hd => h d (by omega)), h n (by omega)]
theorem sam_uP {C : Nat → Nat} {u w : Us} (h : sam u w) : uP C u = uP C w := pr_congr 12 h.2
theorem sam_uC {Os : Nat → Nat → Nat} {C : Nat → Nat} {u w : Us} (h : sam u w) : uC Os C u = uC Os C w := by
  unfold uC
  rw [h.1, sam_uP h, lowP_congr (e := fun a => w.2.count a) 12 h.2]
theorem sam_ve {t : Nat → Nat} {u w : Us} (h : sam u w) : ve t u = ve t w := by
  funext d
  unfold ve
  rw [h.1]
  by_cases hd : d < 12
  · rw [if_pos hd, if_pos hd]; exact h.2 d hd
  · rw [if_neg hd, if_neg hd]
theorem sam_stp {t : Nat → Nat} {u w : Us} (h : sam u w) : stp t u = stp t w := by unfold stp; rw [sam_ve h]
theorem cdU_inj {t : Nat → Nat} {l m : List Nat} (hl : ∀ a, l.count a ≤ t a) (hm : ∀ a, m.count a ≤ t a) (h : cdU t l = cdU t m) : ∀ a, a < 12 → l.count a = m.count a := by
  intro a ha
  have h1 := dg_enc (t := t) (w := fun a => l.count a) 12 a ha (fun e _ => hl e)
  have h2 := dg_enc (t := t) (w := fun a => m.count a) 12 a ha (fun e _ => hm e)
  unfold cdU at h
  rw [h] at h1
  exact h1.symm.trans h2
theorem cdU_sam {t : Nat → Nat} {u w : Us} (h : sam u w) : cdU t u.2 = cdU t w.2 := encN_congr 12 h.2
theorem or_some {α : Type} {a b : Option α} (h : a.isSome = true) : a.or b = a := by
  cases a with
  | none => cases h
  | some x => rfl
theorem kp_find {Os : Nat → Nat → Nat} {C t : Nat → Nat} {o : Nat} (P : Us → Bool) (hP1 : ∀ u, P u = true → uC Os C u < uP C u) (hP2 : ∀ u w, sam u w → P u = P w) : ∀ (ls : List (List Nat)) (K : List Us) (M : List Nat) (L : List Us), (∀ l ∈ ls, ∀ a, l.count a ≤ t a) → (∀ u ∈ L, ∀ a, u.2.count a ≤ t a) → K.find? P = L.find? P → (∀ x ∈ M, ∃ u ∈ L, u.1 = o ∧ cdU t u.2 = x) → (List.foldl (kp1 Os C t o) (K, M) ls).1.find? P = (L ++ ls.map (fun l => (o, l))).find? P := by
  intro ls
  induction ls with
  | nil =>
    intro K M L _ _ h _
    rw [List.map_nil, List.append_nil]; exact h
  | cons l r ih =>
    intro K M L hls hL h hM
    rw [List.map_cons, show L ++ (o, l) :: List.map (fun l => (o, l)) r = (L ++ [(o, l)]) ++ List.map (fun l => (o, l)) r by rw [List.append_assoc]; rfl]
    show (List.foldl (kp1 Os C t o) (kp1 Os C t o (K, M) l) r).1.find? P = _
    have hl := hls l List.mem_cons_self
    have hL2 : ∀ u ∈ L ++ [(o, l)], ∀ a, u.2.count a ≤ t a := fun u hu => by
      rcases List.mem_append.mp hu with e | e
      · exact hL u e
      · rw [List.mem_singleton.mp e]; exact hl
    by_cases hq : uC Os C (o, l) < uP C (o, l) ∧ ¬ cdU t l ∈ M
    · have e : kp1 Os C t o (K, M) l = (K ++ [(o, l)], cdU t l :: M) := if_pos hq
      rw [e]
      refine ih _ _ _ (fun m hm => hls m (List.mem_cons_of_mem _ hm)) hL2 ?_ (fun x hx => ?_)
      · rw [List.find?_append, List.find?_append, h]
      · rcases List.mem_cons.mp hx with e2 | e2
        · exact ⟨(o, l), List.mem_append.mpr (Or.inr List.mem_cons_self), rfl, e2.symm⟩
        · obtain ⟨u, u1, u2⟩ := hM x e2
          exact ⟨u, List.mem_append.mpr (Or.inl u1), u2⟩
    · have e : kp1 Os C t o (K, M) l = (K, M) := if_neg hq
      rw [e]
      refine ih _ _ _ (fun m hm => hls m (List.mem_cons_of_mem _ hm)) hL2 ?_ (fun x hx => ?_)
      · rw [List.find?_append, h]
        by_cases hPl : P (o, l) = true
        · have h1 := hP1 _ hPl
          have h2 : cdU t l ∈ M := Classical.byContradiction (fun hn => hq ⟨h1, hn⟩)
          obtain ⟨u, u1, u2, u3⟩ := hM _ h2
          have h3 : sam u (o, l) := ⟨u2, cdU_inj (hL u u1) hl u3⟩
          have h4 : P u = true := (hP2 u _ h3).trans hPl
          rw [or_some (List.find?_isSome.mpr ⟨u, u1, h4⟩)]
        · rw [List.find?_cons_of_neg hPl, List.find?_nil, Option.or_none]
      · obtain ⟨u, u1, u2⟩ := hM x hx
        exact ⟨u, List.mem_append.mpr (Or.inl u1), u2⟩
theorem ext_all {O t : Nat → Nat} {k : Nat} {l : List Nat} (hl : l ∈ ext O t k 0 []) : l.length = k ∧ (∀ x ∈ l, x < 12) ∧ ∀ a, l.count a ≤ t a := by
  obtain ⟨s, e, hl2, hx⟩ := ext_pre _ _ _ hl
  rw [List.nil_append] at e
  subst e
  exact ⟨hl2, hx, ext_cnt _ _ _ hl (fun a => by rw [List.count_nil]; exact Nat.zero_le _)⟩
theorem allU_cnt {Os : Nat → Nat → Nat} {t : Nat → Nat} {n : Nat} {u : Us} (h : u ∈ allU Os t n) : ∀ a, u.2.count a ≤ t a := (ext_all ((allU_mem n).mp h).2.2).2.2
theorem kpA_find {Os : Nat → Nat → Nat} {C t : Nat → Nat} (P : Us → Bool) (hP1 : ∀ u, P u = true → uC Os C u < uP C u) (hP2 : ∀ u w, sam u w → P u = P w) : ∀ n, (kpA Os C t n).find? P = (allU Os t n).find? P := by
  intro n
  induction n with
  | zero => rfl
  | succ n ih =>
    unfold kpA allU
    by_cases h : Os n 4 = 1
    · rw [if_pos h, if_pos h]
      unfold kpF
      exact kp_find P hP1 hP2 _ _ _ _ (fun l hl => (ext_all hl).2.2) (fun u hu => allU_cnt hu) ih (fun x hx => by cases hx)
    · rw [if_neg h, if_neg h, List.append_nil]; exact ih
theorem kp_mem {Os : Nat → Nat → Nat} {C t : Nat → Nat} {o : Nat} {u : Us} : ∀ (ls : List (List Nat)) (K : List Us) (M : List Nat), u ∈ (List.foldl (kp1 Os C t o) (K, M) ls).1 → u ∈ K ∨ (u.1 = o ∧ u.2 ∈ ls ∧ uC Os C u < uP C u) := by
  intro ls
  induction ls with
  | nil => intro K M h; exact Or.inl h
  | cons l r ih =>
    intro K M h
    have h2 : u ∈ (List.foldl (kp1 Os C t o) (kp1 Os C t o (K, M) l) r).1 := h
    by_cases hq : uC Os C (o, l) < uP C (o, l) ∧ ¬ cdU t l ∈ M
    · have e : kp1 Os C t o (K, M) l = (K ++ [(o, l)], cdU t l :: M) := if_pos hq
      rw [e] at h2
      rcases ih _ _ h2 with h3 | ⟨h3, h4, h5⟩
      · rcases List.mem_append.mp h3 with h4 | h4
        · exact Or.inl h4
        · rw [List.mem_singleton.mp h4]
          exact Or.inr ⟨rfl, List.mem_cons_self, hq.1⟩
      · exact Or.inr ⟨h3, List.mem_cons_of_mem _ h4, h5⟩
    · have e : kp1 Os C t o (K, M) l = (K, M) := if_neg hq
      rw [e] at h2
      rcases ih _ _ h2 with h3 | ⟨h3, h4, h5⟩
      · exact Or.inl h3
      · exact Or.inr ⟨h3, List.mem_cons_of_mem _ h4, h5⟩
theorem kpA_mem {Os : Nat → Nat → Nat} {C t : Nat → Nat} {u : Us} : ∀ n, u ∈ kpA Os C t n → u ∈ allU Os t n ∧ uC Os C u < uP C u := by
  intro n
  induction n with
  | zero => intro h; cases h
  | succ n ih =>
    intro h
    unfold kpA at h
    unfold allU
    by_cases h4 : Os n 4 = 1
    · rw [if_pos h4] at h ⊢
      rcases kp_mem _ _ _ h with h1 | ⟨h1, h2, h3⟩
      · exact ⟨List.mem_append.mpr (Or.inl (ih h1).1), (ih h1).2⟩
      · exact ⟨List.mem_append.mpr (Or.inr (List.mem_map.mpr ⟨u.2, h2, by rw [← h1]⟩)), h3⟩
    · rw [if_neg h4] at h
      rw [if_neg h4, List.append_nil]; exact ih h
theorem kpA_rep {Os : Nat → Nat → Nat} {C t : Nat → Nat} {u : Us} (h : u ∈ allU Os t 6) (hs : uC Os C u < uP C u) : ∃ w ∈ kpA Os C t 6, sam w u := by
  have h1 := kpA_find (Os := Os) (C := C) (t := t) (fun w => decide (w.1 = u.1) && decide (cdU t w.2 = cdU t u.2) && decide (uC Os C w < uP C w)) (fun w hw => by
    rw [Bool.and_eq_true] at hw
    exact of_decide_eq_true hw.2) (fun v w hvw => by
    show (decide (v.1 = u.1) && decide (cdU t v.2 = cdU t u.2) && decide (uC Os C v < uP C v)) = (decide (w.1 = u.1) && decide (cdU t w.2 = cdU t u.2) && decide (uC Os C w < uP C w))
    rw [hvw.1, cdU_sam hvw, sam_uC hvw, sam_uP hvw]) 6
  have h2 : ((allU Os t 6).find? (fun w => decide (w.1 = u.1) && decide (cdU t w.2 = cdU t u.2) && decide (uC Os C w < uP C w))).isSome = true := List.find?_isSome.mpr ⟨u, h, by simp [hs]⟩
  rw [← h1] at h2
  obtain ⟨w, hw, hPw⟩ := List.find?_isSome.mp h2
  rw [Bool.and_eq_true, Bool.and_eq_true] at hPw
  exact ⟨w, hw, of_decide_eq_true hPw.1.1, cdU_inj (allU_cnt (kpA_mem 6 hw).1) (allU_cnt h) (of_decide_eq_true hPw.1.2)⟩
theorem find_at {P : Us → Bool} : ∀ (K : List Us) (j : Nat), j < K.length → P (kU K j) = true → (∀ i, i < j → ¬ P (kU K i) = true) → K.find? P = some (kU K j) := by
  intro K
  induction K with
  | nil => intro j h; exact absurd h (Nat.not_lt_zero _)
  | cons u r ih =>
    intro j hj hP hi
    cases j with
    | zero => exact List.find?_cons_of_pos hP
    | succ j =>
      have h0 : ¬ P u = true := hi 0 (by omega)
      rw [List.find?_cons_of_neg h0]
      exact ih j (by rw [List.length_cons] at hj; omega) hP (fun i h => hi (i + 1) (by omega))
theorem find_no {P : Us → Bool} : ∀ (K : List Us), (∀ i, i < K.length → ¬ P (kU K i) = true) → K.find? P = none := by
  intro K
  induction K with
  | nil => intro _; rfl
  | cons u r ih =>
    intro hi
    have h0 : ¬ P u = true := hi 0 (by rw [List.length_cons]; omega)
    rw [List.find?_cons_of_neg h0]
    exact ih (fun i h => hi (i + 1) (by rw [List.length_cons]; omega))
