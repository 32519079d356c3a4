/-! the digits of a state's number; firstBestUse -/
theorem str_mul (t : Nat → Nat) (d : Nat) : ∀ n, d < n → ∃ K, str t n = str t d * ((t d + 1) * K) := by
  intro n
  induction n with
  | zero => intro h; omega
  | succ n ih =>
    intro h
    by_cases hd : d = n
    · subst hd
      exact ⟨1, by rw [str_s, Nat.mul_one]⟩
    · obtain ⟨K, hK⟩ := ih (by omega)
      refine ⟨K * (t n + 1), ?_⟩
      rw [str_s, hK, Nat.mul_assoc, Nat.mul_assoc]
def dg (t : Nat → Nat) (s d : Nat) : Nat := s / str t d % (t d + 1)
theorem dg_enc {t w : Nat → Nat} : ∀ n d, d < n → (∀ e, e < n → w e ≤ t e) → dg t (encN t w n) d = w d := by
  intro n
  induction n with
  | zero => intro d h; omega
  | succ n ih =>
    intro d hd hw
    unfold dg
    rw [encN_s]
    have hp := str_pos t d
    by_cases hdn : d = n
    · subst hdn
      have h1 := encN_lt (t := t) (v := w) d (fun e he => hw e (by omega))
      have h2 := hw d (by omega)
      rw [Nat.add_mul_div_right _ _ hp, Nat.div_eq_of_lt h1, Nat.zero_add]
      exact Nat.mod_eq_of_lt (by omega)
    · obtain ⟨K, hK⟩ := str_mul t d n (by omega)
      have h1 := ih d (by omega) (fun e he => hw e (by omega))
      unfold dg at h1
      rw [hK, show w n * (str t d * ((t d + 1) * K)) = (t d + 1) * (w n * K) * str t d by
        rw [Nat.mul_comm (str t d) _, ← Nat.mul_assoc, ← Nat.mul_assoc, ← Nat.mul_assoc, Nat.mul_comm (w n) (t d + 1)], Nat.add_mul_div_right _ _ hp, Nat.add_mul_mod_self_left]
      exact h1
theorem dg_le (t : Nat → Nat) (s d : Nat) : dg t s d ≤ t d := by
  unfold dg
  have := Nat.mod_lt (s / str t d) (show 0 < t d + 1 by omega)
  omega
theorem enc_dg {t : Nat → Nat} : ∀ n s, s < str t n → encN t (dg t s) n = s := by
  intro n
  induction n with
  | zero =>
    intro s hs
    have : s < 1 := hs
    show 0 = s
    omega
  | succ n ih =>
    intro s hs
    rw [encN_s]
    rw [str_s] at hs
    have hp := str_pos t n
    have h1 : s / str t n < t n + 1 := by
      rw [Nat.div_lt_iff_lt_mul hp, Nat.mul_comm]; exact hs
    have h2 : dg t s n = s / str t n := by
      unfold dg
      exact Nat.mod_eq_of_lt h1
    have h3 : encN t (dg t s) n = encN t (dg t (s % str t n)) n := by
      refine encN_congr n (fun d hd => ?_)
      unfold dg
      obtain ⟨K, hK⟩ := str_mul t d n hd
      have e1 : s = s % str t n + (t d + 1) * (K * (s / str t n)) * str t d := by
        have h9 := Nat.mod_add_div s (str t n)
        have h8 : str t n * (s / str t n) = (t d + 1) * (K * (s / str t n)) * str t d := by
          rw [show str t n * (s / str t n) = str t d * ((t d + 1) * K) * (s / str t n) by rw [← hK], Nat.mul_comm (str t d) _, Nat.mul_right_comm, Nat.mul_assoc (t d + 1) K]
        rw [← h8]
        exact h9.symm
      have hpd := str_pos t d
      have e2 : s / str t d = (s % str t n + (t d + 1) * (K * (s / str t n)) * str t d) / str t d := by rw [← e1]
      rw [e2, Nat.add_mul_div_right _ _ hpd, Nat.add_mul_mod_self_left]
    rw [h3, ih _ (Nat.mod_lt _ hp), h2, Nat.mul_comm]
    exact Nat.mod_add_div s (str t n)
