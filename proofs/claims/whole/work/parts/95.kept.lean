/-! giveBack: the kept units -/
def kB (k : Nat → Bool) (b : Nat → Nat) : Nat → Nat → Nat
  | 0 => fun _ => 0
  | n + 1 => if k n then fup (kB k b n) (kc k n) (b n) else kB k b n
theorem kB_t {k : Nat → Bool} {b : Nat → Nat} {n : Nat} (h : k n = true) : kB k b (n + 1) = fup (kB k b n) (kc k n) (b n) := by show (if k n then _ else _) = _; rw [h]; rfl
theorem kB_f {k : Nat → Bool} {b : Nat → Nat} {n : Nat} (h : k n = false) : kB k b (n + 1) = kB k b n := by show (if k n then _ else _) = _; rw [h]; rfl
theorem kB_cnt (k : Nat → Bool) (b : Nat → Nat) (x : Int32) : ∀ n, cnt (nB (kB k b n)) x (kc k n) ≤ cnt (nB b) x n := by
  intro n
  induction n with
  | zero => exact Nat.le_refl _
  | succ n ih =>
    cases hk : k n with
    | true =>
      rw [kB_t hk, kc_t hk]
      have e1 : cnt (nB (fup (kB k b n) (kc k n) (b n))) x (kc k n) = cnt (nB (kB k b n)) x (kc k n) := cnt_congr _ (fun j hj => by unfold nB; rw [fup_ne _ _ (by omega)])
      have e2 : nB (fup (kB k b n) (kc k n) (b n)) (kc k n) = nB b n := by unfold nB; rw [fup_same]
      rw [cnt, cnt, e1, e2]
      omega
    | false =>
      rw [kB_f hk, kc_f hk]
      refine Nat.le_trans ih ?_
      rw [cnt]
      omega
theorem kB_lt {k : Nat → Bool} {b : Nat → Nat} : ∀ n, (∀ i, i < n → b i < 12) → ∀ j, j < kc k n → kB k b n j < 12 := by
  intro n
  induction n with
  | zero => intro _ j hj; exact absurd hj (Nat.not_lt_zero _)
  | succ n ih =>
    intro h j hj
    cases hk : k n with
    | true =>
      rw [kc_t hk] at hj
      rw [kB_t hk]
      by_cases e : j = kc k n
      · rw [e, fup_same]; exact h n (by omega)
      · rw [fup_ne _ _ e]; exact ih (fun i hi => h i (by omega)) j (by omega)
    | false =>
      rw [kc_f hk] at hj
      rw [kB_f hk]
      exact ih (fun i hi => h i (by omega)) j hj
theorem kB_room {Os : Nat → Nat → Nat} (k : Nat → Bool) {b : Nat → Nat} {z : Nat} (h : str (tN Os b z) 18 ≤ 3000) : str (tN Os (kB k b z) (kc k z)) 18 ≤ 3000 :=
  Nat.le_trans (str_mono 18 (tN_mono (fun a _ => kB_cnt k b (nI a) z) (fun hh => Nat.lt_of_lt_of_le hh (kc_le k z)))) h
theorem rf_max {R p t : Nat} (hR : R < 2 ^ 29) (hp : p < 2 ^ 29) (ht : t < 2 ^ 29) : (if nI R < nI p - nI t then nI p - nI t else nI R) = nI (max R (p - t)) := by
  have e := pk_sub_toInt (a := p) (b := t) (by omega) (by omega)
  have eR := nI_toInt (n := R) (by omega)
  by_cases h : R + t < p
  · have e1 : nI p - nI t = nI (p - t) := pk_sub (by omega)
    rw [e1, if_pos ((nI_ltI (by omega) (by omega)).mpr (by omega)), Nat.max_eq_right (by omega)]
  · rw [if_neg, Nat.max_eq_left (by omega)]
    intro hlt
    rw [Int32.lt_iff_toInt_lt, e, eR] at hlt
    omega
theorem rf_le {R p t : Nat} (hR : R < 2 ^ 29) (hp : p < 2 ^ 29) (ht : t < 2 ^ 29) : (nI p - nI t ≤ nI R ∧ max R (p - t) = R) ∨ (¬ nI p - nI t ≤ nI R ∧ nI p - nI t - nI R = nI (max R (p - t) - R)) := by
  have e := pk_sub_toInt (a := p) (b := t) (by omega) (by omega)
  have eR := nI_toInt (n := R) (by omega)
  by_cases h : R + t < p
  · right
    have e1 : nI p - nI t = nI (p - t) := pk_sub (by omega)
    refine ⟨fun hle => ?_, ?_⟩
    · rw [Int32.le_iff_toInt_le, e, eR] at hle
      omega
    · rw [e1, pk_sub (by omega), Nat.max_eq_right (by omega)]
  · left
    refine ⟨?_, Nat.max_eq_left (by omega)⟩
    rw [Int32.le_iff_toInt_le, e, eR]
    omega
