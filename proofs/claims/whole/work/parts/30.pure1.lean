/-! pure rows: what the predicates come to (no machine) -/
theorem s2_same (σ : St) (k i : Nat) (v : Int32) : s2 σ k i v k i = v := by simp [s2, va_up, upd]
theorem s2_ne (σ : St) (k i : Nat) (v : Int32) {a b : Nat} (h : a ≠ k ∨ b ≠ i) : s2 σ k i v a b = σ a b := by
  unfold s2 va_up upd
  by_cases h1 : a = k
  · subst h1
    rcases h with h | h
    · exact absurd rfl h
    · simp [h]
  · simp [h1]
theorem s2_comp (σ : St) (k i : Nat) (v : Int32) {a : Nat} (h : a ≠ k) : s2 σ k i v a = σ a := by
  unfold s2 va_up
  simp [h]
theorem leL {n m : Nat} (hn : n < 2 ^ 31) (hm : m < 2 ^ 31) : nI n ≤ nI m ↔ n ≤ m := nI_leI hn hm
theorem pf_fill12_l (N : Nat) (v : Int32) (post : St → Prop) (h : ∀ u : St, (∀ i, i < 12 → u 0 i = v) → post u) : ∀ (n i : Nat) (α : St), i ≤ 12 → 12 - i < n → (∀ j, j < i → α 0 j = v) → wp_J_fill12_5 N post n v (nI i) 12 α := by
  intro n
  induction n with
  | zero => intro i α _ h2; omega
  | succ n ih =>
    intro i α hi hn hj
    rw [wp_J_fill12_5]
    refine ⟨fun hc => ?_, fun hc => ⟨?_, fun α3 e3 => ?_⟩⟩
    · rw [show (12 : Int32) = nI 12 from rfl, leL (by decide) (by omega)] at hc
      exact h α (fun j hj2 => hj j (by omega))
    · rw [show (12 : Int32) = nI 12 from rfl, leL (by decide) (by omega)] at hc
      exact vp_in_nI (by omega) (by decide)
    · rw [show (12 : Int32) = nI 12 from rfl, leL (by decide) (by omega)] at hc
      rw [nI_1]
      refine ih (i + 1) α3 (by omega) (by omega) (fun j hj2 => ?_)
      rw [e3, nI_clamp (by omega)]
      by_cases hji : j = i
      · subst hji; exact s2_same ..
      · rw [s2_ne _ _ _ _ (Or.inr hji)]; exact hj j (by omega)
theorem pf_fill12 (N : Nat) (hN : 13 ≤ N) (α : St) (v : Int32) (post : St → Prop) (h : ∀ u : St, (∀ i, i < 12 → u 0 i = v) → post u) : wp_J_fill12 N α v post :=
  pf_fill12_l N v post h N 0 α (by omega) (by omega) (fun j hj => by omega)
theorem pf_fill18_l (N : Nat) (v : Int32) (post : St → Prop) (h : ∀ u : St, (∀ i, i < 18 → u 0 i = v) → post u) : ∀ (n i : Nat) (α : St), i ≤ 18 → 18 - i < n → (∀ j, j < i → α 0 j = v) → wp_J_fill18_5 N post n v (nI i) 18 α := by
  intro n
  induction n with
  | zero => intro i α _ h2; omega
  | succ n ih =>
    intro i α hi hn hj
    rw [wp_J_fill18_5]
    refine ⟨fun hc => ?_, fun hc => ⟨?_, fun α3 e3 => ?_⟩⟩
    · rw [show (18 : Int32) = nI 18 from rfl, leL (by decide) (by omega)] at hc
      exact h α (fun j hj2 => hj j (by omega))
    · rw [show (18 : Int32) = nI 18 from rfl, leL (by decide) (by omega)] at hc
      exact vp_in_nI (by omega) (by decide)
    · rw [show (18 : Int32) = nI 18 from rfl, leL (by decide) (by omega)] at hc
      rw [nI_1]
      refine ih (i + 1) α3 (by omega) (by omega) (fun j hj2 => ?_)
      rw [e3, nI_clamp (by omega)]
      by_cases hji : j = i
      · subst hji; exact s2_same ..
      · rw [s2_ne _ _ _ _ (Or.inr hji)]; exact hj j (by omega)
theorem pf_fill18 (N : Nat) (hN : 19 ≤ N) (α : St) (v : Int32) (post : St → Prop) (h : ∀ u : St, (∀ i, i < 18 → u 0 i = v) → post u) : wp_J_fill18 N α v post :=
  pf_fill18_l N v post h N 0 α (by omega) (by omega) (fun j hj => by omega)
/-- how many of the first n -/
def cnt (f : Nat → Int32) (a : Int32) : Nat → Nat
  | 0 => 0
  | n + 1 => cnt f a n + (if f n = a then 1 else 0)
theorem cnt_le (f : Nat → Int32) (a : Int32) (n : Nat) : cnt f a n ≤ n := by
  induction n with
  | zero => exact Nat.le_refl _
  | succ n ih => unfold cnt; split <;> omega
theorem pf_countOf_l (N : Nat) (β : St) (a : Int32) (z : Nat) (hz : z ≤ 10) (hb : β 1 0 = nI z) (post : Int32 → Unit → Prop) (h : post (nI (cnt (β 0) a z)) ()) : ∀ (n i : Nat), i ≤ z → z - i < n → wp_Basket_countOf_4 N β post n a (nI (cnt (β 0) a i)) (nI i) := by
  intro n
  induction n with
  | zero => intro i _ h2; omega
  | succ n ih =>
    intro i hi hn
    rw [wp_Basket_countOf_4, hb]
    refine ⟨fun hc => ?_, fun hc => ?_⟩
    · rw [leL (by omega) (by omega)] at hc
      have : i = z := by omega
      subst this
      exact h
    · rw [leL (by omega) (by omega)] at hc
      refine ⟨vp_in_nI (by omega) (by decide), fun he => ?_, fun he => ?_⟩
      · rw [nI_clamp (by omega)] at he
        unfold wp_Basket_countOf_25
        have := ih (i + 1) (by omega) (by omega)
        unfold cnt at this
        rw [if_neg he, Nat.add_zero] at this
        rw [nI_1]; exact this
      · rw [nI_clamp (by omega)] at he
        unfold wp_Basket_countOf_25
        have := ih (i + 1) (by omega) (by omega)
        unfold cnt at this
        rw [if_pos he] at this
        rw [nI_1, nI_1]; exact this
theorem pf_countOf (N : Nat) (hN : 11 ≤ N) (β : St) (a : Int32) (z : Nat) (hz : z ≤ 10) (hb : β 1 0 = nI z) (post : Int32 → Unit → Prop) (h : post (nI (cnt (β 0) a z)) ()) : wp_Basket_countOf N β a post :=
  pf_countOf_l N β a z hz hb post h N 0 (by omega) (by omega)
