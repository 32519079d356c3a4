/-! the lists of a use, in the order in which they are tried; a table filled from below -/
def exL (f : Nat → List (List Nat)) : Nat → Nat → List (List Nat)
  | 0, _ => []
  | n + 1, a => f a ++ exL f n (a + 1)
def ext (O t : Nat → Nat) : Nat → Nat → List Nat → List (List Nat)
  | 0, _, pre => [pre]
  | k + 1, lo, pre => exL (fun a => if pre.count a < t a ∧ tk O pre.length a = true then ext O t k (if O 0 = 2 then 0 else a) (pre ++ [a]) else []) (12 - lo) lo
theorem exL_mem {f : Nat → List (List Nat)} {l : List Nat} : ∀ (n a : Nat), l ∈ exL f n a ↔ ∃ i, a ≤ i ∧ i < a + n ∧ l ∈ f i := by
  intro n
  induction n with
  | zero =>
    intro a
    refine ⟨fun h => ?_, fun ⟨i, h1, h2, _⟩ => by omega⟩
    cases h
  | succ n ih =>
    intro a
    unfold exL
    rw [List.mem_append, ih]
    constructor
    · rintro (h | ⟨i, h1, h2, h3⟩)
      · exact ⟨a, by omega, by omega, h⟩
      · exact ⟨i, by omega, by omega, h3⟩
    · rintro ⟨i, h1, h2, h3⟩
      by_cases hi : i = a
      · subst hi; exact Or.inl h3
      · exact Or.inr ⟨i, by omega, by omega, h3⟩
theorem exL_filter (f : Nat → List (List Nat)) (P : List Nat → Bool) : ∀ (n a : Nat), (exL f n a).filter P = exL (fun i => (f i).filter P) n a := by
  intro n
  induction n with
  | zero => intro a; rfl
  | succ n ih => intro a; unfold exL; rw [List.filter_append, ih]
theorem exL_congr {f g : Nat → List (List Nat)} : ∀ (n a : Nat), (∀ i, a ≤ i → i < a + n → f i = g i) → exL f n a = exL g n a := by
  intro n
  induction n with
  | zero => intro a _; rfl
  | succ n ih => intro a h; unfold exL; rw [h a (by omega) (by omega), ih (a + 1) (fun i h1 h2 => h i (by omega) (by omega))]
theorem ext_pre {O t : Nat → Nat} {l : List Nat} : ∀ (k lo : Nat) (pre : List Nat), l ∈ ext O t k lo pre → ∃ s, l = pre ++ s ∧ s.length = k ∧ ∀ x ∈ s, x < 12 := by
  intro k
  induction k with
  | zero =>
    intro lo pre h
    unfold ext at h
    rw [List.mem_singleton] at h
    exact ⟨[], by rw [h, List.append_nil], rfl, fun x hx => by cases hx⟩
  | succ k ih =>
    intro lo pre h
    unfold ext at h
    rw [exL_mem] at h
    obtain ⟨i, h1, h2, h3⟩ := h
    split at h3
    · obtain ⟨s, e, hl, hx⟩ := ih _ _ h3
      refine ⟨i :: s, by rw [e, List.append_assoc]; rfl, by rw [List.length_cons, hl], fun x hx2 => ?_⟩
      rcases List.mem_cons.mp hx2 with h | h
      · omega
      · exact hx x h
    · cases h3
theorem cnt_snoc (l : List Nat) (a b : Nat) : (l ++ [a]).count b = l.count b + (if a = b then 1 else 0) := by
  rw [List.count_append, List.count_singleton]
  by_cases h : a = b
  · simp [h]
  · simp [h]
theorem ext_cnt {O t : Nat → Nat} {l : List Nat} : ∀ (k lo : Nat) (pre : List Nat), l ∈ ext O t k lo pre → (∀ a, pre.count a ≤ t a) → ∀ a, l.count a ≤ t a := by
  intro k
  induction k with
  | zero =>
    intro lo pre h hp
    unfold ext at h
    rw [List.mem_singleton] at h
    rw [h]; exact hp
  | succ k ih =>
    intro lo pre h hp
    unfold ext at h
    rw [exL_mem] at h
    obtain ⟨i, h1, h2, h3⟩ := h
    split at h3
    · rename_i hc
      refine ih _ _ h3 (fun a => ?_)
      rw [cnt_snoc]
      have := hp a
      split
      · rename_i he; subst he; omega
      · omega
    · cases h3
def leB (e v : Nat → Nat) : Nat → Bool
  | 0 => true
  | n + 1 => leB e v n && decide (e n ≤ v n)
theorem leB_iff (e v : Nat → Nat) : ∀ n, leB e v n = true ↔ ∀ a, a < n → e a ≤ v a := by
  intro n
  induction n with
  | zero => exact ⟨fun _ a h => by omega, fun _ => rfl⟩
  | succ n ih =>
    unfold leB
    rw [Bool.and_eq_true, ih, decide_eq_true_iff]
    refine ⟨fun ⟨h1, h2⟩ a ha => ?_, fun h => ⟨fun a ha => h a (by omega), h n (by omega)⟩⟩
    by_cases hn : a = n
    · subst hn; exact h2
    · exact h1 a (by omega)
def fitC (v : Nat → Nat) (l : List Nat) : Bool := leB (fun a => l.count a) v 12
theorem fitC_iff {v : Nat → Nat} {l : List Nat} : fitC v l = true ↔ ∀ a, a < 12 → l.count a ≤ v a := leB_iff _ _ 12
theorem ext_filter {O t v : Nat → Nat} (hvt : ∀ a, a < 12 → v a ≤ t a) : ∀ (k lo : Nat) (pre : List Nat), (∀ a, a < 12 → pre.count a ≤ v a) → ext O v k lo pre = (ext O t k lo pre).filter (fitC v) := by
  intro k
  induction k with
  | zero =>
    intro lo pre hp
    unfold ext
    have : fitC v pre = true := fitC_iff.mpr hp
    rw [List.filter_cons, if_pos this]; rfl
  | succ k ih =>
    intro lo pre hp
    unfold ext
    rw [exL_filter]
    refine exL_congr _ _ (fun a h1 h2 => ?_)
    have ha : a < 12 := by omega
    by_cases h3 : pre.count a < v a ∧ tk O pre.length a = true
    · have := hvt a ha
      have h4 : pre.count a < t a ∧ tk O pre.length a = true := ⟨by omega, h3.2⟩
      rw [if_pos h3, if_pos h4]
      refine ih _ _ (fun b hb => ?_)
      rw [cnt_snoc]
      have := hp b hb
      split
      · rename_i he; subst he; omega
      · omega
    · rw [if_neg h3]
      split
      · rename_i h4
        symm
        rw [List.filter_eq_nil_iff]
        intro l hl hf
        obtain ⟨s, e, -, -⟩ := ext_pre _ _ _ hl
        have hf2 : ∀ a, a < 12 → l.count a ≤ v a := fitC_iff.mp hf
        have h5 := hf2 a ha
        rw [e, List.count_append, cnt_snoc, if_pos rfl] at h5
        exact h3 ⟨by omega, h4.2⟩
      · rfl
/-- a table filled from below -/
def tab (F : (Nat → Nat) → Nat → Nat) : Nat → Nat → Nat
  | 0 => fun _ => 0
  | n + 1 => fun i => if i = n then F (tab F n) n else tab F n i
def fixT (F : (Nat → Nat) → Nat → Nat) (n : Nat) : Nat := tab F (n + 1) n
theorem tab_fix (F : (Nat → Nat) → Nat → Nat) : ∀ (n i : Nat), i < n → tab F n i = fixT F i := by
  intro n
  induction n with
  | zero => intro i h; omega
  | succ n ih =>
    intro i h
    by_cases hi : i = n
    · subst hi; rfl
    · show (if i = n then _ else _) = _
      rw [if_neg hi]; exact ih i (by omega)
theorem fixT_eq {F : (Nat → Nat) → Nat → Nat} {n : Nat} (hF : ∀ f g : Nat → Nat, (∀ i, i < n → f i = g i) → F f n = F g n) : fixT F n = F (fixT F) n := by
  show (if n = n then F (tab F n) n else tab F n n) = _
  rw [if_pos rfl]
  exact hF _ _ (fun i hi => tab_fix F n i hi)
