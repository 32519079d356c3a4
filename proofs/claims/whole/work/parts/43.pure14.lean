/-! the exchange, over numbers of states: u are uses, a articles; fit, has: what is left allows them -/
/-- the least total is at most that of an article alone and what is behind it -/
theorem L_alone {fit has : Nat → Nat → Prop} {stp sa c pr L W : Nat → Nat}
    (F1 : ∀ u s, fit u s → stp u ≤ s ∧ 0 < stp u) (F2 : ∀ a s, has a s → sa a ≤ s)
    (F5 : ∀ u a s, has a s → fit u (s - sa a) → fit u s ∧ has a (s - stp u) ∧ s - sa a - stp u = s - stp u - sa a)
    (hW : ∀ a s, has a s → W s = pr a + W (s - sa a)) (hL1 : ∀ s, L s ≤ W s) (hL2 : ∀ u s, fit u s → L s ≤ c u + L (s - stp u)) (hL3 : ∀ s, L s = W s ∨ ∃ u, fit u s ∧ L s = c u + L (s - stp u)) :
    ∀ (n s : Nat), s < n → ∀ a, has a s → L s ≤ pr a + L (s - sa a) := by
  intro n
  induction n with
  | zero => intro s h; omega
  | succ n ih =>
    intro s hs a ha
    rcases hL3 (s - sa a) with h | ⟨u, hu, h⟩
    · have h1 := hL1 s
      have h2 := hW a s ha
      omega
    · obtain ⟨g1, g2, g3⟩ := F5 u a s ha hu
      obtain ⟨g4, g5⟩ := F1 u s g1
      have h1 := hL2 u s g1
      have h2 := ih (s - stp u) (by omega) a g2
      rw [← g3] at h2
      omega
/-- the greatest saving is at least that of any use and what is behind it (sav u, a whole number, may be below 0) -/
theorem S_use {fit has : Nat → Nat → Prop} {stp sa : Nat → Nat} {S : Nat → Int} {sav : Nat → Int} {inU : Nat → Nat → Prop} {la : Nat → Nat → Prop}
    (F1 : ∀ u s, fit u s → stp u ≤ s ∧ 0 < stp u) (F2 : ∀ a s, la a s → sa a ≤ s ∧ 0 < sa a)
    (F0 : ∀ u s, fit u s → ∃ a, la a s) (F6 : ∀ u a s, la a s → fit u s → ¬ inU a u → la a (s - stp u) ∧ fit u (s - sa a) ∧ s - stp u - sa a = s - sa a - stp u)
    (F7 : ∀ u w a s, la a s → fit u s → ¬ inU a u → fit w (s - stp u) → fit w s ∧ fit u (s - stp w) ∧ s - stp u - stp w = s - stp w - stp u)
    (hM : ∀ u s, fit u s → S (s - stp u) ≤ S s) (hS1 : ∀ a s, la a s → S (s - sa a) ≤ S s) (hS2 : ∀ u a s, la a s → fit u s → inU a u → 0 < sav u → sav u + S (s - stp u) ≤ S s)
    (hS3 : ∀ a s, la a s → S s = S (s - sa a) ∨ ∃ w, fit w s ∧ inU a w ∧ 0 < sav w ∧ S s = sav w + S (s - stp w)) :
    ∀ (n s : Nat), s < n → ∀ u, fit u s → sav u + S (s - stp u) ≤ S s := by
  intro n
  induction n with
  | zero => intro s h; omega
  | succ n ih =>
    intro s hs u hu
    obtain ⟨a, ha⟩ := F0 u s hu
    obtain ⟨f1, f2⟩ := F1 u s hu
    by_cases hin : inU a u
    · by_cases hpos : 0 < sav u
      · exact hS2 u a s ha hu hin hpos
      · have := hM u s hu
        omega
    · obtain ⟨g1, g2, g3⟩ := F6 u a s ha hu hin
      obtain ⟨f3, f4⟩ := F2 a s ha
      rcases hS3 a (s - stp u) g1 with h | ⟨w, hw, hwi, hwp, h⟩
      · have h1 := ih (s - sa a) (by omega) u g2
        have h2 := hS1 a s ha
        rw [h, g3]
        omega
      · obtain ⟨k1, k2, k3⟩ := F7 u w a s ha hu hin hw
        obtain ⟨f5, f6⟩ := F1 w s k1
        have h1 := ih (s - stp w) (by omega) u k2
        have h2 := hS2 w a s ha k1 hwi hwp
        rw [h, k3]
        omega
