/-! a kept use fits where its vector is below the digits -/
theorem srt_s (c : Nat → Nat) (n : Nat) : srt c (n + 1) = srt c n ++ List.replicate (c n) n := rfl
theorem srt_len (c : Nat → Nat) : ∀ n, (srt c n).length = sm c n := by
  intro n
  induction n with
  | zero => rfl
  | succ n ih => rw [srt_len_s, ih, sm_s]
theorem srt_pre (c : Nat → Nat) {m : Nat} : ∀ n, m ≤ n → ∃ r, srt c n = srt c m ++ r := by
  intro n
  induction n with
  | zero =>
    intro h
    have : m = 0 := by omega
    subst this; exact ⟨[], by rw [List.append_nil]⟩
  | succ n ih =>
    intro h
    by_cases hm : m = n + 1
    · subst hm; exact ⟨[], by rw [List.append_nil]⟩
    · obtain ⟨r, e⟩ := ih (by omega)
      exact ⟨r ++ List.replicate (c n) n, by rw [srt_s, e, List.append_assoc]⟩
theorem getD_app_l {l r : List Nat} {p : Nat} (h : p < l.length) : (l ++ r).getD p 0 = l.getD p 0 := by
  rw [List.getD_eq_getElem?_getD, List.getD_eq_getElem?_getD, List.getElem?_append_left h]
theorem getD_mem {l : List Nat} {p : Nat} (h : p < l.length) : l.getD p 0 ∈ l := by
  rw [List.getD_eq_getElem?_getD, List.getElem?_eq_getElem h]
  exact List.getElem_mem h
theorem srt_low (c : Nat → Nat) {m n p : Nat} (hmn : m ≤ n) (hp : p < (srt c m).length) : (srt c n).getD p 0 < m := by
  obtain ⟨r, e⟩ := srt_pre c n hmn
  rw [e, getD_app_l hp]
  exact srt_lt c m _ (getD_mem hp)
theorem srt_get (c : Nat → Nat) {m n k : Nat} (hmn : m < n) (hk : k < c m) : (srt c n).getD ((srt c m).length + k) 0 = m := by
  obtain ⟨r, e⟩ := srt_pre c n (show m + 1 ≤ n by omega)
  rw [e, getD_app_l (by rw [srt_len_s]; omega), srt_s, List.getD_eq_getElem?_getD, List.getElem?_append_right (by omega), Nat.add_sub_cancel_left, List.getElem?_replicate, if_pos hk]
  rfl
theorem srt_mem (c : Nat → Nat) {x : Nat} : ∀ n, x ∈ srt c n → 0 < c x := by
  intro n
  induction n with
  | zero => intro h; cases h
  | succ n ih =>
    intro h
    rw [srt_s] at h
    rcases List.mem_append.mp h with h | h
    · exact ih h
    · obtain ⟨h1, h2⟩ := List.mem_replicate.mp h
      subst h2; omega
theorem wnt_srt (c : Nat → Nat) {m : Nat} (hm : m < 12) : ∀ k, k < c m → wnt (gA c) ((srt c m).length + k) = k + 1 := by
  intro k
  induction k with
  | zero =>
    intro hk
    rw [Nat.add_zero]
    cases hl : (srt c m).length with
    | zero => rfl
    | succ q =>
      have h1 : gA c (q + 1) = m := by
        have := srt_get c (n := 12) hm hk
        rw [hl] at this; exact this
      have h2 : gA c q < m := srt_low c (by omega) (by omega)
      show (if gA c (q + 1) = gA c q then _ else 1) = 0 + 1
      rw [if_neg (by omega)]
  | succ k ih =>
    intro hk
    have h1 : gA c ((srt c m).length + k + 1) = m := srt_get c (n := 12) hm hk
    have h2 : gA c ((srt c m).length + k) = m := srt_get c (n := 12) hm (by omega)
    show (if gA c ((srt c m).length + k + 1) = gA c ((srt c m).length + k) then wnt (gA c) ((srt c m).length + k) + 1 else 1) = _
    rw [if_pos (by omega), ih (by omega)]
theorem fitsN_in (c v : Nat → Nat) {m : Nat} (hm : m < 12) : ∀ k, k ≤ c m → (fitsN v (gA c) ((srt c m).length + k) = true ↔ fitsN v (gA c) (srt c m).length = true ∧ (k = 0 ∨ k ≤ v m)) := by
  intro k
  induction k with
  | zero => intro _; exact ⟨fun h => ⟨h, Or.inl rfl⟩, fun h => h.1⟩
  | succ k ih =>
    intro hk
    have h1 : gA c ((srt c m).length + k) = m := srt_get c (n := 12) hm (by omega)
    have h2 := wnt_srt c hm k (by omega)
    show (fitsN v (gA c) ((srt c m).length + k) && decide (wnt (gA c) ((srt c m).length + k) ≤ v (gA c ((srt c m).length + k)))) = true ↔ _
    rw [Bool.and_eq_true, decide_eq_true_iff, ih (by omega), h1, h2]
    constructor
    · rintro ⟨⟨h3, -⟩, h4⟩; exact ⟨h3, Or.inr h4⟩
    · rintro ⟨h3, h4⟩; exact ⟨⟨h3, by omega⟩, by omega⟩
theorem fitsN_srt (c v : Nat → Nat) : ∀ m, m ≤ 12 → (fitsN v (gA c) (srt c m).length = true ↔ ∀ a, a < m → c a ≤ v a) := by
  intro m
  induction m with
  | zero => intro _; exact ⟨fun _ a h => by omega, fun _ => rfl⟩
  | succ m ih =>
    intro hm
    rw [srt_len_s, fitsN_in c v (by omega) (c m) (Nat.le_refl _), ih (by omega)]
    constructor
    · rintro ⟨h1, h2⟩ a ha
      by_cases e : a = m
      · subst e; omega
      · exact h1 a (by omega)
    · intro h
      exact ⟨fun a ha => h a (by omega), Or.inr (h m (by omega))⟩
theorem wnt_congr {A B : Nat → Nat} : ∀ p, (∀ q, q ≤ p → A q = B q) → wnt A p = wnt B p := by
  intro p
  induction p with
  | zero => intro _; rfl
  | succ p ih =>
    intro h
    show (if A (p + 1) = A p then wnt A p + 1 else 1) = (if B (p + 1) = B p then wnt B p + 1 else 1)
    rw [h (p + 1) (by omega), h p (by omega), ih (fun q hq => h q (by omega))]
theorem fitsN_congr {v A B : Nat → Nat} : ∀ n, (∀ q, q < n → A q = B q) → fitsN v A n = fitsN v B n := by
  intro n
  induction n with
  | zero => intro _; rfl
  | succ n ih =>
    intro h
    show (fitsN v A n && decide (wnt A n ≤ v (A n))) = (fitsN v B n && decide (wnt B n ≤ v (B n)))
    rw [ih (fun q hq => h q (by omega)), wnt_congr n (fun q hq => h q (by omega)), h n (by omega)]
theorem ap_get (c : Nat → Nat) {p : Nat} (hp : p < 4) : ap (gA c 0) (gA c 1) (gA c 2) (gA c 3) p = gA c p := by
  unfold ap
  rcases (show p = 0 ∨ p = 1 ∨ p = 2 ∨ p = 3 by omega) with rfl | rfl | rfl | rfl <;> rfl
abbrev cn (u : Us) : Nat → Nat := fun a => u.2.count a
theorem fits_ve {t v : Nat → Nat} {u : Us} (h6 : u.1 < 6) (hl : u.2.length ≤ 4) (hx : ∀ x ∈ u.2, x < 12) : fitsU t v u.1 (srt (cn u) 12).length (ap (gA (cn u) 0) (gA (cn u) 1) (gA (cn u) 2) (gA (cn u) 3)) = leB (ve t u) v 18 := by
  have hlen : (srt (cn u) 12).length ≤ 4 := by rw [srt_len, sm_count u.2 hx]; exact hl
  unfold fitsU
  rw [fitsN_congr (B := gA (cn u)) _ (fun q hq => ap_get (cn u) (by omega))]
  refine Bool.eq_iff_iff.mpr ?_
  rw [Bool.and_eq_true, decide_eq_true_iff, fitsN_srt (cn u) v 12 (Nat.le_refl _), leB_iff]
  constructor
  · rintro ⟨h1, h2⟩ d hd
    unfold ve
    by_cases h3 : d < 12
    · rw [if_pos h3]; exact h2 d h3
    · rw [if_neg h3]
      by_cases h4 : d = 12 + u.1 ∧ 0 < t d
      · rw [if_pos h4]
        obtain ⟨h5, h7⟩ := h4
        subst h5
        omega
      · rw [if_neg h4]; exact Nat.zero_le _
  · intro h
    refine ⟨?_, fun a ha => ?_⟩
    · have h1 := h (12 + u.1) (by omega)
      unfold ve at h1
      rw [if_neg (by omega)] at h1
      by_cases h2 : t (12 + u.1) = 0
      · exact Or.inl h2
      · rw [if_pos ⟨rfl, by omega⟩] at h1
        exact Or.inr h1
    · have h1 := h a (by omega)
      unfold ve at h1
      rw [if_pos ha] at h1; exact h1
theorem gA_0 {c : Nat → Nat} {a : Nat} (ha : a < 12) (h1 : 0 < c a) (h2 : ∀ b, b < a → c b = 0) : gA c 0 = a := by
  have h3 : (srt c a).length = 0 := by
    rw [srt_len, sm_congr (f := fun _ => 0) a h2, sm_zero]
  have h4 := srt_get c (n := 12) ha h1
  rw [h3] at h4
  exact h4
theorem gA_pos {c : Nat → Nat} (h : 0 < (srt c 12).length) : 0 < c (gA c 0) := srt_mem c 12 (getD_mem h)
theorem gA_lt {c : Nat → Nat} (p : Nat) : gA c p < 12 := by
  by_cases h : p < (srt c 12).length
  · exact srt_lt c 12 _ (getD_mem h)
  · show (srt c 12).getD p 0 < 12
    rw [List.getD_eq_getElem?_getD, List.getElem?_eq_none (by omega)]
    decide
