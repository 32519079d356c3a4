/-! states as numbers: digits v below tops t -/
def encN (t v : Nat → Nat) : Nat → Nat
  | 0 => 0
  | n + 1 => encN t v n + v n * str t n
theorem encN_s (t v : Nat → Nat) (n : Nat) : encN t v (n + 1) = encN t v n + v n * str t n := rfl
theorem str_s (t : Nat → Nat) (n : Nat) : str t (n + 1) = str t n * (t n + 1) := rfl
theorem str_pos (t : Nat → Nat) : ∀ n, 0 < str t n := by
  intro n
  induction n with
  | zero => exact Nat.one_pos
  | succ n ih => unfold str; exact Nat.mul_pos ih (by omega)
theorem encN_lt {t v : Nat → Nat} : ∀ n, (∀ d, d < n → v d ≤ t d) → encN t v n < str t n := by
  intro n
  induction n with
  | zero => intro _; exact Nat.one_pos
  | succ n ih =>
    intro h
    have h1 := ih (fun d hd => h d (by omega))
    have h2 := h n (by omega)
    rw [encN_s, str_s]
    have h3 : (v n + 1) * str t n ≤ (t n + 1) * str t n := Nat.mul_le_mul_right _ (by omega)
    rw [Nat.mul_comm (str t n) (t n + 1)]
    rw [Nat.add_mul, Nat.one_mul] at h3
    omega
theorem encN_full {t v : Nat → Nat} : ∀ n, (∀ d, d < n → v d = t d) → encN t v n + 1 = str t n := by
  intro n
  induction n with
  | zero => intro _; rfl
  | succ n ih =>
    intro h
    have h1 := ih (fun d hd => h d (by omega))
    rw [encN_s, str_s, h n (by omega), Nat.mul_add, Nat.mul_one, Nat.mul_comm (str t n) (t n)]
    omega
theorem encN_zero {t v : Nat → Nat} : ∀ n, (∀ d, d < n → v d = 0) → encN t v n = 0 := by
  intro n
  induction n with
  | zero => intro _; rfl
  | succ n ih =>
    intro h
    rw [encN_s]
    rw [ih (fun d hd => h d (by omega)), h n (by omega)]
    simp
theorem encN_congr {t v w : Nat → Nat} : ∀ n, (∀ d, d < n → v d = w d) → encN t v n = encN t w n := by
  intro n
  induction n with
  | zero => intro _; rfl
  | succ n ih =>
    intro h
    rw [encN_s]
    rw [encN_s, ih (fun d hd => h d (by omega)), h n (by omega)]
theorem encN_above {t v w : Nat → Nat} {i : Nat} (h : ∀ d, i ≤ d → v d = w d) : ∀ n, i ≤ n → encN t v n + encN t w i = encN t w n + encN t v i := by
  intro n
  induction n with
  | zero =>
    intro hi
    have : i = 0 := by omega
    subst this; rfl
  | succ n ih =>
    intro hi
    by_cases hin : i = n + 1
    · subst hin; omega
    · have h1 := ih (by omega)
      rw [encN_s, encN_s, h n (by omega)]
      omega
/-- the digits behind one more: those ahead of i are full -/
def bump (v : Nat → Nat) (i : Nat) : Nat → Nat := fun d => if d < i then 0 else if d = i then v i + 1 else v d
theorem bump_enc {t v : Nat → Nat} {i n : Nat} (hi : i < n) (hf : ∀ d, d < i → v d = t d) : encN t (bump v i) n = encN t v n + 1 := by
  have h1 : encN t (bump v i) n + encN t v (i + 1) = encN t v n + encN t (bump v i) (i + 1) := encN_above (fun d hd => by unfold bump; rw [if_neg (by omega), if_neg (by omega)]) n (by omega)
  have h2 : encN t (bump v i) (i + 1) = encN t v (i + 1) + 1 := by
    rw [encN_s, encN_s]
    rw [encN_zero i (fun d hd => by unfold bump; rw [if_pos hd])]
    have h3 := encN_full (t := t) (v := v) i hf
    have h4 : bump v i i = v i + 1 := by unfold bump; rw [if_neg (by omega), if_pos rfl]
    rw [h4, Nat.add_mul, Nat.one_mul]
    omega
  omega
theorem pf_countUp (N : Nat) (hN : 19 ≤ N) {κ0 : St} (υ : St) {t v : Nat → Nat} (ht : ∀ d, d < 18 → κ0 0 d = nI (t d) ∧ t d < 100) (hv : ∀ d, d < 18 → κ0 2 d = nI (v d) ∧ v d ≤ t d) (hr : encN t v 18 + 1 < str t 18) (post : St → Prop)
    (hp : ∀ (κ : St) (w : Nat → Nat), (∀ a, a ≠ 2 → κ a = κ0 a) → (∀ d, d < 18 → κ 2 d = nI (w d) ∧ w d ≤ t d) → encN t w 18 = encN t v 18 + 1 → post κ) : wp_Planner_countUp N κ0 υ post := by
  have main : ∀ (n i : Nat) (κ : St), i ≤ 18 → 18 - i < n → (∀ d, d < i → v d = t d) → (∀ a, a ≠ 2 → κ a = κ0 a) → (∀ d, d < 18 → κ 2 d = nI (if d < i then 0 else v d)) → wp_Planner_countUp_2 N υ post n (nI i) κ := by
    intro n
    induction n with
    | zero => intro i κ _ h2; omega
    | succ n ih =>
      intro i κ hi hn hf hk h2
      rw [wp_Planner_countUp_2]
      refine ⟨fun hc => ?_, fun hc => ?_⟩
      · rw [show (18 : Int32) = nI 18 from rfl, leL (by decide) (by omega)] at hc
        have : i = 18 := by omega
        subst this
        have := encN_full (t := t) (v := v) 18 hf
        omega
      · rw [show (18 : Int32) = nI 18 from rfl, leL (by decide) (by omega)] at hc
        have hti := ht i (by omega)
        have hvi := hv i (by omega)
        have hin : vp_in (nI i) 18 := vp_in_nI (by omega) (by decide)
        have e2 : κ 2 i = nI (v i) := by rw [h2 i (by omega), if_neg (by omega)]
        rw [nI_clamp (by omega), hk 0 (by decide), hti.1, e2, leL (by omega) (by omega)]
        refine ⟨hin, hin, fun hq => ⟨hin, fun κ1 e1 => ?_⟩, fun hq => ⟨hin, hin, fun κ1 e1 => ?_⟩⟩
        · rw [nI_1]
          refine ih (i + 1) κ1 (by omega) (by omega) (fun d hd => ?_) (fun a ha => ?_) (fun d hd => ?_)
          · by_cases hdi : d = i
            · subst hdi; omega
            · exact hf d (by omega)
          · rw [e1, s2_comp _ _ _ _ ha]; exact hk a ha
          · by_cases hdi : d = i
            · subst hdi; rw [e1, s2_same, if_pos (by omega)]; rfl
            · rw [e1, s2_ne _ _ _ _ (Or.inr hdi), h2 d hd]
              by_cases hdl : d < i
              · rw [if_pos hdl, if_pos (by omega)]
              · rw [if_neg hdl, if_neg (by omega)]
        · refine hp κ1 (bump v i) (fun a ha => ?_) (fun d hd => ?_) (bump_enc (by omega) hf)
          · rw [e1, s2_comp _ _ _ _ ha]; exact hk a ha
          · unfold bump
            by_cases hdi : d = i
            · subst hdi
              rw [if_neg (by omega), if_pos rfl, e1, s2_same, nI_1]
              exact ⟨rfl, by omega⟩
            · rw [e1, s2_ne _ _ _ _ (Or.inr hdi), h2 d hd]
              by_cases hdl : d < i
              · simp only [if_pos hdl]; exact ⟨trivial, Nat.zero_le _⟩
              · simp only [if_neg hdl, if_neg hdi]; exact ⟨trivial, (hv d hd).2⟩
  exact main N 0 κ0 (by omega) (by omega) (fun d hd => by omega) (fun _ _ => rfl) (fun d hd => by rw [(hv d hd).1, if_neg (by omega)])
