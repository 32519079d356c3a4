/-! the saving of a use, spread over its units: whole shares, then cents to the greatest remainders -/
def shr1 (sv sum c : Nat) : Nat := sv * c / sum
def rmd (sv sum c : Nat) : Nat := sv * c % sum
def smm (m : Nat → Bool) (f : Nat → Nat) : Nat → Nat
  | 0 => 0
  | n + 1 => smm m f n + (if m n then f n else 0)
def amx (op : Nat → Bool) (r : Nat → Nat) : Nat → Option Nat
  | 0 => none
  | n + 1 => match amx op r n with
    | none => if op n then some n else none
    | some m => if op n = true ∧ r m < r n then some n else some m
def clo (op : Nat → Bool) (m : Nat) : Nat → Bool := fun j => op j && decide (j ≠ m)
def dec1 (Y : Nat → Nat) (m : Nat) : Nat → Nat := fun j => if j = m then Y j - 1 else Y j
def spL (z : Nat) (r : Nat → Nat) : Nat → (Nat → Bool) → (Nat → Nat) → Nat → Nat
  | 0, _, Y => Y
  | k + 1, op, Y => match amx op r z with
    | none => Y
    | some m => spL z r k (clo op m) (dec1 Y m)
def Y1 (sv sum : Nat) (mem : Nat → Bool) (Y : Nat → Nat) : Nat → Nat := fun j => if mem j then Y j - shr1 sv sum (Y j) else Y j
def spY (z sv sum : Nat) (mem : Nat → Bool) (Y : Nat → Nat) : Nat → Nat := spL z (fun j => rmd sv sum (Y j)) (sv - smm mem (fun j => shr1 sv sum (Y j)) z) mem (Y1 sv sum mem Y)
def cP (op : Nat → Bool) (r : Nat → Nat) : Nat → Nat
  | 0 => 0
  | n + 1 => cP op r n + (if op n = true ∧ 0 < r n then 1 else 0)
theorem amx_s (op : Nat → Bool) (r : Nat → Nat) (n : Nat) : amx op r (n + 1) = match amx op r n with
    | none => if op n then some n else none
    | some m => if op n = true ∧ r m < r n then some n else some m := rfl
theorem amx_none {op : Nat → Bool} {r : Nat → Nat} : ∀ n, amx op r n = none → ∀ j, j < n → ¬ op j = true := by
  intro n
  induction n with
  | zero => intro _ j h; omega
  | succ n ih =>
    intro h j hj
    rw [amx_s] at h
    cases e : amx op r n with
    | none =>
      rw [e] at h
      have h2 : (if op n then some n else none) = none := h
      by_cases ho : op n = true
      · rw [if_pos ho] at h2; cases h2
      · by_cases hjn : j = n
        · subst hjn; exact ho
        · exact ih e j (by omega)
    | some m =>
      rw [e] at h
      have h2 : (if op n = true ∧ r m < r n then some n else some m) = none := h
      split at h2 <;> cases h2
theorem amx_some {op : Nat → Bool} {r : Nat → Nat} : ∀ n m, amx op r n = some m → m < n ∧ op m = true ∧ ∀ j, j < n → op j = true → r j ≤ r m := by
  intro n
  induction n with
  | zero => intro m h; cases h
  | succ n ih =>
    intro m h
    rw [amx_s] at h
    cases e : amx op r n with
    | none =>
      rw [e] at h
      have h2 : (if op n then some n else none) = some m := h
      have hno := amx_none n e
      by_cases ho : op n = true
      · rw [if_pos ho] at h2
        cases h2
        refine ⟨by omega, ho, fun j hj hoj => ?_⟩
        by_cases hjn : j = n
        · subst hjn; exact Nat.le_refl _
        · exact absurd hoj (hno j (by omega))
      · rw [if_neg ho] at h2; cases h2
    | some k =>
      rw [e] at h
      have h2 : (if op n = true ∧ r k < r n then some n else some k) = some m := h
      obtain ⟨i1, i2, i3⟩ := ih k e
      by_cases hc : op n = true ∧ r k < r n
      · rw [if_pos hc] at h2
        cases h2
        refine ⟨by omega, hc.1, fun j hj hoj => ?_⟩
        by_cases hjn : j = n
        · subst hjn; exact Nat.le_refl _
        · have := i3 j (by omega) hoj; omega
      · rw [if_neg hc] at h2
        cases h2
        refine ⟨by omega, i2, fun j hj hoj => ?_⟩
        by_cases hjn : j = n
        · subst hjn
          rcases Nat.lt_or_ge (r m) (r j) with h3 | h3
          · exact absurd ⟨hoj, h3⟩ hc
          · exact h3
        · exact i3 j (by omega) hoj
theorem cP_pos {op : Nat → Bool} {r : Nat → Nat} : ∀ n, 0 < cP op r n → ∃ j, j < n ∧ op j = true ∧ 0 < r j := by
  intro n
  induction n with
  | zero => intro h; cases h
  | succ n ih =>
    intro h
    unfold cP at h
    by_cases hc : op n = true ∧ 0 < r n
    · exact ⟨n, by omega, hc.1, hc.2⟩
    · rw [if_neg hc] at h
      obtain ⟨j, h1, h2⟩ := ih h
      exact ⟨j, by omega, h2⟩
theorem cP_clo (op : Nat → Bool) (r : Nat → Nat) (m : Nat) : ∀ n, cP op r n ≤ cP (clo op m) r n + (if m < n then 1 else 0) := by
  intro n
  induction n with
  | zero => exact Nat.zero_le _
  | succ n ih =>
    unfold cP
    by_cases e : n = m
    · subst e
      rw [if_neg (show ¬ n < n by omega)] at ih
      rw [if_pos (show n < n + 1 by omega)]
      split <;> split <;> omega
    · have e2 : clo op m n = op n := by
        unfold clo
        rw [decide_eq_true e, Bool.and_true]
      rw [e2]
      by_cases h : m < n
      · rw [if_pos h] at ih
        rw [if_pos (show m < n + 1 by omega)]
        omega
      · rw [if_neg h] at ih
        rw [if_neg (show ¬ m < n + 1 by omega)]
        omega
/-- with enough open units with a remainder the greatest has one, too -/
theorem amx_get {op : Nat → Bool} {r : Nat → Nat} {z k : Nat} (h : k + 1 ≤ cP op r z) : ∃ m, amx op r z = some m ∧ m < z ∧ op m = true ∧ 0 < r m ∧ k ≤ cP (clo op m) r z := by
  obtain ⟨j, j1, j2, j3⟩ := cP_pos (op := op) (r := r) z (by omega)
  cases e : amx op r z with
  | none => exact absurd j2 (amx_none z e j j1)
  | some m =>
    obtain ⟨m1, m2, m3⟩ := amx_some z m e
    have h1 := m3 j j1 j2
    have h2 := cP_clo op r m z
    rw [if_pos m1] at h2
    exact ⟨m, rfl, m1, m2, by omega, by omega⟩
theorem smm_div (sv sum : Nat) (mem : Nat → Bool) (Y : Nat → Nat) : ∀ n, sum * smm mem (fun j => shr1 sv sum (Y j)) n + smm mem (fun j => rmd sv sum (Y j)) n = sv * smm mem Y n := by
  intro n
  induction n with
  | zero => rfl
  | succ n ih =>
    unfold smm
    rw [Nat.mul_add, Nat.mul_add, ← ih]
    by_cases h : mem n = true
    · rw [if_pos h, if_pos h, if_pos h]
      have := Nat.div_add_mod (sv * Y n) sum
      show sum * smm mem (fun j => shr1 sv sum (Y j)) n + sum * (sv * Y n / sum) + (smm mem (fun j => rmd sv sum (Y j)) n + sv * Y n % sum) = _
      omega
    · rw [if_neg h, if_neg h, if_neg h]; omega
theorem smm_cP {sv sum : Nat} (hs : 0 < sum) (mem : Nat → Bool) (Y : Nat → Nat) : ∀ n, smm mem (fun j => rmd sv sum (Y j)) n ≤ cP mem (fun j => rmd sv sum (Y j)) n * (sum - 1) := by
  intro n
  induction n with
  | zero => exact Nat.zero_le _
  | succ n ih =>
    unfold smm cP
    rw [Nat.add_mul]
    have hm : rmd sv sum (Y n) < sum := Nat.mod_lt _ hs
    by_cases h : mem n = true
    · rw [if_pos h]
      by_cases h0 : 0 < rmd sv sum (Y n)
      · rw [if_pos ⟨h, h0⟩]
        omega
      · rw [if_neg (fun q => h0 q.2)]
        omega
    · rw [if_neg h, if_neg (fun q => h q.1)]
      omega
/-- the cents behind the whole shares -/
def rstC (z sv sum : Nat) (mem : Nat → Bool) (Y : Nat → Nat) : Nat := sv - smm mem (fun j => shr1 sv sum (Y j)) z
theorem rst_ok {z sv sum : Nat} {mem : Nat → Bool} {Y : Nat → Nat} (hs : 0 < sum) (hsum : smm mem Y z = sum) : smm mem (fun j => shr1 sv sum (Y j)) z ≤ sv ∧ rstC z sv sum mem Y ≤ cP mem (fun j => rmd sv sum (Y j)) z := by
  have h1 := smm_div sv sum mem Y z
  rw [hsum, Nat.mul_comm sv sum] at h1
  have h2 : smm mem (fun j => shr1 sv sum (Y j)) z ≤ sv := by
    rcases Nat.lt_or_ge sv (smm mem (fun j => shr1 sv sum (Y j)) z) with h | h
    · have : sum * (sv + 1) ≤ sum * smm mem (fun j => shr1 sv sum (Y j)) z := Nat.mul_le_mul_left _ h
      rw [Nat.mul_add, Nat.mul_one] at this
      omega
    · exact h
  refine ⟨h2, ?_⟩
  have h3 := smm_cP (sv := sv) hs mem Y z
  have h4 : sum * rstC z sv sum mem Y + sum * smm mem (fun j => shr1 sv sum (Y j)) z = sum * sv := by
    rw [← Nat.mul_add]
    unfold rstC
    rw [Nat.sub_add_cancel h2]
  rcases Nat.lt_or_ge (cP mem (fun j => rmd sv sum (Y j)) z) (rstC z sv sum mem Y) with h | h
  · exfalso
    have h5 : sum * (cP mem (fun j => rmd sv sum (Y j)) z + 1) ≤ sum * rstC z sv sum mem Y := Nat.mul_le_mul_left _ h
    have h6 : cP mem (fun j => rmd sv sum (Y j)) z * (sum - 1) ≤ cP mem (fun j => rmd sv sum (Y j)) z * sum := Nat.mul_le_mul_left _ (by omega)
    rw [Nat.mul_add, Nat.mul_one, Nat.mul_comm sum] at h5
    omega
  · exact h
theorem cP_le (op : Nat → Bool) (r : Nat → Nat) : ∀ n, cP op r n ≤ n := by
  intro n
  induction n with
  | zero => exact Nat.le_refl _
  | succ n ih => unfold cP; split <;> omega
theorem shr_le {sv sum c : Nat} (hs : 0 < sum) (h : sv ≤ sum) : shr1 sv sum c ≤ c := by
  unfold shr1
  have : sv * c ≤ c * sum := by rw [Nat.mul_comm c sum]; exact Nat.mul_le_mul_right _ h
  calc sv * c / sum ≤ c * sum / sum := Nat.div_le_div_right this
    _ = c := Nat.mul_div_cancel _ hs
theorem shr_lt {sv sum c : Nat} (hs : 0 < sum) (h : sv ≤ sum) (hr : 0 < rmd sv sum c) : shr1 sv sum c < c := by
  have h1 := shr_le (c := c) hs h
  rcases Nat.lt_or_ge (shr1 sv sum c) c with h2 | h2
  · exact h2
  · exfalso
    have e : shr1 sv sum c = c := by omega
    have h3 := Nat.div_add_mod (sv * c) sum
    unfold shr1 at e
    unfold rmd at hr
    rw [e] at h3
    have : sv * c ≤ sum * c := Nat.mul_le_mul_right _ h
    omega
def ys (Y : Nat → Nat) : Nat → Nat
  | 0 => 0
  | n + 1 => ys Y n + Y n
theorem ys_congr {Y X : Nat → Nat} : ∀ n, (∀ j, j < n → Y j = X j) → ys Y n = ys X n := by
  intro n
  induction n with
  | zero => intro _; rfl
  | succ n ih => intro h; show ys Y n + Y n = ys X n + X n; rw [ih (fun j hj => h j (by omega)), h n (by omega)]
theorem ys_dec {Y : Nat → Nat} {m : Nat} (h1 : 1 ≤ Y m) : ∀ n, ys (dec1 Y m) n + (if m < n then 1 else 0) = ys Y n := by
  intro n
  induction n with
  | zero => rfl
  | succ n ih =>
    show ys (dec1 Y m) n + dec1 Y m n + _ = ys Y n + Y n
    unfold dec1 at ih ⊢
    by_cases e : n = m
    · subst e
      rw [if_neg (show ¬ n < n by omega)] at ih
      rw [if_pos rfl, if_pos (show n < n + 1 by omega)]
      omega
    · rw [if_neg e]
      by_cases h : m < n
      · rw [if_pos h] at ih; rw [if_pos (show m < n + 1 by omega)]; omega
      · rw [if_neg h] at ih; rw [if_neg (show ¬ m < n + 1 by omega)]; omega
theorem spL_s {z : Nat} {r : Nat → Nat} {k : Nat} {op : Nat → Bool} {Y : Nat → Nat} {m : Nat} (h : amx op r z = some m) : spL z r (k + 1) op Y = spL z r k (clo op m) (dec1 Y m) := by
  show (match amx op r z with
    | none => Y
    | some m => spL z r k (clo op m) (dec1 Y m)) = _
  rw [h]
theorem clo_of {op : Nat → Bool} {m j : Nat} (h : clo op m j = true) : op j = true ∧ j ≠ m := by
  unfold clo at h
  rw [Bool.and_eq_true] at h
  exact ⟨h.1, of_decide_eq_true h.2⟩
theorem spL_sum {z : Nat} {r : Nat → Nat} : ∀ (k : Nat) (op : Nat → Bool) (Y : Nat → Nat), k ≤ cP op r z → (∀ j, j < z → op j = true → 0 < r j → 1 ≤ Y j) → ys (spL z r k op Y) z + k = ys Y z := by
  intro k
  induction k with
  | zero => intro op Y _ _; rfl
  | succ k ih =>
    intro op Y h hY
    obtain ⟨m, e, m1, m2, m3, m4⟩ := amx_get h
    rw [spL_s e]
    have h1 := hY m m1 m2 m3
    have h2 := ih (clo op m) (dec1 Y m) m4 (fun j hj ho hr => by
      obtain ⟨o1, o2⟩ := clo_of ho
      unfold dec1
      rw [if_neg o2]; exact hY j hj o1 hr)
    have h3 := ys_dec h1 z
    rw [if_pos m1] at h3
    omega
theorem Y1_sum {z sv sum : Nat} {mem : Nat → Bool} {Y : Nat → Nat} (hs : 0 < sum) (h : sv ≤ sum) : ∀ n, ys (Y1 sv sum mem Y) n + smm mem (fun j => shr1 sv sum (Y j)) n = ys Y n := by
  intro n
  induction n with
  | zero => rfl
  | succ n ih =>
    show ys (Y1 sv sum mem Y) n + Y1 sv sum mem Y n + (smm mem (fun j => shr1 sv sum (Y j)) n + (if mem n then shr1 sv sum (Y n) else 0)) = ys Y n + Y n
    have h1 := shr_le (c := Y n) hs h
    unfold Y1 at ih ⊢
    by_cases hm : mem n = true
    · rw [if_pos hm, if_pos hm]; omega
    · rw [if_neg hm, if_neg hm]; omega
theorem Y1_pos {z sv sum : Nat} {mem : Nat → Bool} {Y : Nat → Nat} (hs : 0 < sum) (h : sv ≤ sum) : ∀ j, j < z → mem j = true → 0 < rmd sv sum (Y j) → 1 ≤ Y1 sv sum mem Y j := by
  intro j _ hm hr
  unfold Y1
  rw [if_pos hm]
  have := shr_lt hs h hr
  omega
theorem spY_sum {z sv sum : Nat} {mem : Nat → Bool} {Y : Nat → Nat} (hs : 0 < sum) (h : sv ≤ sum) (hsum : smm mem Y z = sum) : ys (spY z sv sum mem Y) z + sv = ys Y z := by
  obtain ⟨h1, h2⟩ := rst_ok (sv := sv) hs hsum
  have h3 := spL_sum (rstC z sv sum mem Y) mem (Y1 sv sum mem Y) h2 (Y1_pos hs h)
  have h4 := Y1_sum (z := z) (mem := mem) (Y := Y) hs h z
  unfold rstC at h3
  unfold spY
  omega
theorem spL_le {z : Nat} {r : Nat → Nat} {B : Nat} : ∀ (k : Nat) (op : Nat → Bool) (Y : Nat → Nat), (∀ j, Y j ≤ B) → ∀ j, spL z r k op Y j ≤ B := by
  intro k
  induction k with
  | zero => intro op Y h j; exact h j
  | succ k ih =>
    intro op Y h j
    show (match amx op r z with
      | none => Y
      | some m => spL z r k (clo op m) (dec1 Y m)) j ≤ B
    cases amx op r z with
    | none => exact h j
    | some m =>
      refine ih _ _ (fun i => ?_) j
      unfold dec1
      have := h i
      split <;> omega
theorem spL_out {z : Nat} {r : Nat → Nat} {i : Nat} : ∀ (k : Nat) (op : Nat → Bool) (Y : Nat → Nat), ¬ op i = true → spL z r k op Y i = Y i := by
  intro k
  induction k with
  | zero => intro op Y _; rfl
  | succ k ih =>
    intro op Y h
    show (match amx op r z with
      | none => Y
      | some m => spL z r k (clo op m) (dec1 Y m)) i = Y i
    cases e : amx op r z with
    | none => rfl
    | some m =>
      have hm := (amx_some z m e).2.1
      have him : i ≠ m := fun q => h (q ▸ hm)
      show spL z r k (clo op m) (dec1 Y m) i = Y i
      rw [ih _ _ (fun q => h (clo_of q).1)]
      unfold dec1
      rw [if_neg him]
theorem spY_out {z sv sum : Nat} {mem : Nat → Bool} {Y : Nat → Nat} {i : Nat} (h : ¬ mem i = true) : spY z sv sum mem Y i = Y i := by
  unfold spY
  rw [spL_out _ _ _ h]
  unfold Y1
  rw [if_neg h]
