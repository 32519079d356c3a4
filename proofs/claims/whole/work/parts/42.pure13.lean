/-! what the greatest saving over a chain is; what the first best use is -/
theorem bst_ge_b {t v o l : Nat → Nat} {A : Nat → Nat → Nat} {sv sp S : Nat → Nat} {x : Nat} : ∀ (ch : List Nat) (b : Nat), b ≤ bst t v o l A sv sp S x ch b := by
  intro ch
  induction ch with
  | nil => intro b; exact Nat.le_refl _
  | cons j r ih =>
    intro b
    unfold bst
    split
    · rename_i h; exact Nat.le_trans (Nat.le_of_lt h.2) (ih _)
    · exact ih b
theorem bst_ge {t v o l : Nat → Nat} {A : Nat → Nat → Nat} {sv sp S : Nat → Nat} {x : Nat} : ∀ (ch : List Nat) (b j : Nat), j ∈ ch → fitsU t v (o j) (l j) (apj A j) = true → sv j + S (x - sp j) ≤ bst t v o l A sv sp S x ch b := by
  intro ch
  induction ch with
  | nil => intro b j h; cases h
  | cons i r ih =>
    intro b j hj hf
    unfold bst
    rcases List.mem_cons.mp hj with h | h
    · subst h
      split
      · exact bst_ge_b r _
      · rename_i h9
        have : ¬ b < sv j + S (x - sp j) := fun h8 => h9 ⟨hf, h8⟩
        exact Nat.le_trans (Nat.not_lt.mp this) (bst_ge_b r b)
    · exact ih _ j h hf
theorem bst_att {t v o l : Nat → Nat} {A : Nat → Nat → Nat} {sv sp S : Nat → Nat} {x : Nat} : ∀ (ch : List Nat) (b : Nat), bst t v o l A sv sp S x ch b = b ∨ ∃ j ∈ ch, fitsU t v (o j) (l j) (apj A j) = true ∧ bst t v o l A sv sp S x ch b = sv j + S (x - sp j) := by
  intro ch
  induction ch with
  | nil => intro b; exact Or.inl rfl
  | cons i r ih =>
    intro b
    unfold bst
    split
    · rename_i h
      rcases ih (sv i + S (x - sp i)) with h1 | ⟨j, h1, h2, h3⟩
      · exact Or.inr ⟨i, List.mem_cons_self, h.1, h1⟩
      · exact Or.inr ⟨j, List.mem_cons_of_mem _ h1, h2, h3⟩
    · rcases ih b with h1 | ⟨j, h1, h2, h3⟩
      · exact Or.inl h1
      · exact Or.inr ⟨j, List.mem_cons_of_mem _ h1, h2, h3⟩
theorem fst1_some {t v o l : Nat → Nat} {A : Nat → Nat → Nat} {sv sp S : Nat → Nat} {x b : Nat} : ∀ (ch : List Nat) (j : Nat), fst1 t v o l A sv sp S x b ch = some j → ∃ ch1 ch2, ch = ch1 ++ j :: ch2 ∧ fitsU t v (o j) (l j) (apj A j) = true ∧ sv j + S (x - sp j) = b ∧ ∀ i ∈ ch1, ¬ (fitsU t v (o i) (l i) (apj A i) = true ∧ sv i + S (x - sp i) = b) := by
  intro ch
  induction ch with
  | nil => intro j h; cases h
  | cons i r ih =>
    intro j h
    unfold fst1 at h
    split at h
    · rename_i h1
      cases h
      exact ⟨[], r, rfl, h1.1, h1.2, fun i hi => by cases hi⟩
    · rename_i h1
      obtain ⟨c1, c2, e, f1, f2, f3⟩ := ih j h
      refine ⟨i :: c1, c2, by rw [e]; rfl, f1, f2, fun q hq => ?_⟩
      rcases List.mem_cons.mp hq with h2 | h2
      · subst h2; exact h1
      · exact f3 q h2
theorem fst1_none {t v o l : Nat → Nat} {A : Nat → Nat → Nat} {sv sp S : Nat → Nat} {x b : Nat} : ∀ (ch : List Nat), fst1 t v o l A sv sp S x b ch = none → ∀ i ∈ ch, ¬ (fitsU t v (o i) (l i) (apj A i) = true ∧ sv i + S (x - sp i) = b) := by
  intro ch
  induction ch with
  | nil => intro _ i h; cases h
  | cons i r ih =>
    intro h j hj
    unfold fst1 at h
    split at h
    · cases h
    · rename_i h1
      rcases List.mem_cons.mp hj with h2 | h2
      · subst h2; exact h1
      · exact ih h j h2
theorem bst_congr {t v o l : Nat → Nat} {A : Nat → Nat → Nat} {sv sp S S2 : Nat → Nat} {x : Nat} (h : ∀ s, s < x → S s = S2 s) : ∀ (ch : List Nat) (b : Nat), (∀ j ∈ ch, fitsU t v (o j) (l j) (apj A j) = true → sp j ≤ x ∧ 0 < sp j) → bst t v o l A sv sp S x ch b = bst t v o l A sv sp S2 x ch b := by
  intro ch
  induction ch with
  | nil => intro b _; rfl
  | cons i r ih =>
    intro b hf
    unfold bst
    by_cases h1 : fitsU t v (o i) (l i) (apj A i) = true
    · obtain ⟨q1, q2⟩ := hf i List.mem_cons_self h1
      rw [h (x - sp i) (by omega)]
      exact ih _ (fun j hj => hf j (List.mem_cons_of_mem _ hj))
    · rw [if_neg (fun h => h1 h.1), if_neg (fun h => h1 h.1)]
      exact ih b (fun j hj => hf j (List.mem_cons_of_mem _ hj))
