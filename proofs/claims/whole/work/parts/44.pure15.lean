/-! least total and greatest saving make the worth of a state -/
theorem LS_worth {fit has la inU : Nat → Nat → Prop} {stp sa c p pr L W : Nat → Nat} {S : Nat → Int} {sav : Nat → Int}
    (F1 : ∀ u s, fit u s → stp u ≤ s ∧ 0 < stp u) (F2 : ∀ a s, la a s → has a s ∧ sa a ≤ s ∧ 0 < sa a)
    (hWu : ∀ u s, fit u s → W s = p u + W (s - stp u)) (hWa : ∀ a s, has a s → W s = pr a + W (s - sa a)) (hsv : ∀ u, sav u = (p u : Int) - c u)
    (hL1 : ∀ s, L s ≤ W s) (hL2 : ∀ u s, fit u s → L s ≤ c u + L (s - stp u)) (hL3 : ∀ s, L s = W s ∨ ∃ u, fit u s ∧ L s = c u + L (s - stp u)) (hLa : ∀ a s, has a s → L s ≤ pr a + L (s - sa a))
    (hS0 : ∀ s, 0 ≤ S s) (hSu : ∀ u s, fit u s → sav u + S (s - stp u) ≤ S s) (hS3 : ∀ s, S s = 0 ∨ (∃ a, la a s ∧ S s = S (s - sa a)) ∨ ∃ w, fit w s ∧ S s = sav w + S (s - stp w)) :
    ∀ (n s : Nat), s < n → (L s : Int) + S s = W s := by
  intro n
  induction n with
  | zero => intro s h; omega
  | succ n ih =>
    intro s hs
    apply Int.le_antisymm
    · rcases hS3 s with h | ⟨a, ha, h⟩ | ⟨w, hw, h⟩
      · have := hL1 s
        omega
      · obtain ⟨g1, g2, g3⟩ := F2 a s ha
        have h1 := ih (s - sa a) (by omega)
        have h2 := hLa a s g1
        have h3 := hWa a s g1
        omega
      · obtain ⟨g1, g2⟩ := F1 w s hw
        have h1 := ih (s - stp w) (by omega)
        have h2 := hL2 w s hw
        have h3 := hWu w s hw
        have h4 := hsv w
        omega
    · rcases hL3 s with h | ⟨u, hu, h⟩
      · have := hS0 s
        omega
      · obtain ⟨g1, g2⟩ := F1 u s hu
        have h1 := ih (s - stp u) (by omega)
        have h2 := hSu u s hu
        have h3 := hWu u s hu
        have h4 := hsv u
        omega
