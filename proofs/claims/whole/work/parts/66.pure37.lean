/-! the units that a list takes -/
def fo (G : Nat → Bool) (b : Nat → Nat) (a : Nat) : Nat → Nat
  | 0 => 0
  | n + 1 => if fo G b a n < n then fo G b a n else if G n = false ∧ b n = a then n else n + 1
theorem fo_s (G : Nat → Bool) (b : Nat → Nat) (a n : Nat) : fo G b a (n + 1) = if fo G b a n < n then fo G b a n else if G n = false ∧ b n = a then n else n + 1 := rfl
theorem fo_le (G : Nat → Bool) (b : Nat → Nat) (a : Nat) : ∀ n, fo G b a n ≤ n := by
  intro n
  induction n with
  | zero => exact Nat.le_refl _
  | succ n ih => rw [fo_s]; split <;> (try split) <;> omega
theorem fo_at {G : Nat → Bool} {b : Nat → Nat} {a i : Nat} (h1 : G i = false ∧ b i = a) (h2 : ∀ j, j < i → ¬ (G j = false ∧ b j = a)) : ∀ n, fo G b a n = if i < n then i else n := by
  intro n
  induction n with
  | zero => rfl
  | succ n ih =>
    rw [fo_s, ih]
    by_cases hin : i < n
    · rw [if_pos hin, if_pos hin, if_pos (by omega)]
    · rw [if_neg hin, if_neg (Nat.lt_irrefl _)]
      by_cases e : i = n
      · subst e
        rw [if_pos h1, if_pos (by omega)]
      · rw [if_neg (h2 n (by omega)), if_neg (by omega)]
theorem fo_no {G : Nat → Bool} {b : Nat → Nat} {a : Nat} : ∀ n, (∀ j, j < n → ¬ (G j = false ∧ b j = a)) → fo G b a n = n := by
  intro n
  induction n with
  | zero => intro _; rfl
  | succ n ih =>
    intro h
    rw [fo_s, ih (fun j hj => h j (by omega)), if_neg (Nat.lt_irrefl _), if_neg (h n (by omega))]
theorem fo_lt {G : Nat → Bool} {b : Nat → Nat} {a : Nat} : ∀ n, fo G b a n < n → (G (fo G b a n) = false ∧ b (fo G b a n) = a) ∧ ∀ j, j < fo G b a n → ¬ (G j = false ∧ b j = a) := by
  intro n
  induction n with
  | zero => intro h; omega
  | succ n ih =>
    intro h
    rw [fo_s] at h ⊢
    by_cases h1 : fo G b a n < n
    · rw [if_pos h1]; exact ih h1
    · rw [if_neg h1] at h ⊢
      by_cases h2 : G n = false ∧ b n = a
      · rw [if_pos h2]
        refine ⟨h2, fun j hj hq => ?_⟩
        obtain ⟨k, hk⟩ : ∃ k, k < n ∧ (G k = false ∧ b k = a) ∧ ∀ i, i < k → ¬ (G i = false ∧ b i = a) := by
          obtain ⟨k, k1, k2⟩ := pk_least (fun k => G k = false ∧ b k = a) ⟨j, hq⟩
          refine ⟨k, ?_, k1, k2⟩
          rcases Nat.lt_or_ge k n with h | h
          · exact h
          · exact absurd hq (k2 j (by omega))
        have := fo_at hk.2.1 hk.2.2 n
        rw [if_pos hk.1] at this
        omega
      · rw [if_neg h2] at h; omega
theorem fo_congr {G H : Nat → Bool} {b : Nat → Nat} {a : Nat} : ∀ n, (∀ j, j < n → b j = a → G j = H j) → fo G b a n = fo H b a n := by
  intro n
  induction n with
  | zero => intro _; rfl
  | succ n ih =>
    intro h
    rw [fo_s, fo_s, ih (fun j hj => h j (by omega))]
    by_cases e : b n = a
    · rw [h n (by omega) e]
    · rw [if_neg (c := G n = false ∧ b n = a) (fun q => e q.2), if_neg (c := H n = false ∧ b n = a) (fun q => e q.2)]
def stG (b : Nat → Nat) (z : Nat) (G : Nat → Bool) (a : Nat) : Nat → Bool := fun j => G j || decide (j = fo G b a z)
def takeG (b : Nat → Nat) (z : Nat) (G : Nat → Bool) (l : List Nat) : Nat → Bool := List.foldl (stG b z) G l
theorem stG_comm (b : Nat → Nat) (z : Nat) (G : Nat → Bool) (a c : Nat) : stG b z (stG b z G a) c = stG b z (stG b z G c) a := by
  by_cases e : a = c
  · subst e; rfl
  · have key : ∀ a c, a ≠ c → fo (stG b z G a) b c z = fo G b c z := by
      intro a c e
      refine fo_congr z (fun j hj hb => ?_)
      unfold stG
      have : ¬ j = fo G b a z := fun q => by
        have h1 := fo_lt (G := G) (b := b) (a := a) z (by omega)
        rw [← q] at h1
        exact e (h1.1.2.symm.trans hb)
      rw [decide_eq_false this, Bool.or_false]
    funext j
    show ((G j || decide (j = fo G b a z)) || decide (j = fo (stG b z G a) b c z)) = ((G j || decide (j = fo G b c z)) || decide (j = fo (stG b z G c) b a z))
    rw [key a c e, key c a (fun h => e h.symm), Bool.or_assoc, Bool.or_assoc, Bool.or_comm (decide (j = fo G b a z))]
theorem takeG_perm (b : Nat → Nat) (z : Nat) (G : Nat → Bool) {l m : List Nat} (h : ∀ a, l.count a = m.count a) : takeG b z G l = takeG b z G m :=
  List.Perm.foldl_eq' (List.perm_iff_count.mpr h) (fun x _ y _ g => stG_comm b z g x y) G
theorem srt_count (c : Nat → Nat) (a : Nat) : ∀ n, (srt c n).count a = if a < n then c a else 0 := by
  intro n
  induction n with
  | zero => unfold srt; rw [if_neg (by omega)]; rfl
  | succ n ih =>
    rw [srt_s, List.count_append, ih, List.count_replicate]
    by_cases e : n = a
    · subst e
      rw [if_neg (Nat.lt_irrefl _), if_pos (by simp), if_pos (by omega)]; omega
    · have e2 : ¬ (n == a) = true := by simpa using e
      rw [if_neg e2]
      by_cases h : a < n
      · rw [if_pos h, if_pos (by omega)]; omega
      · rw [if_neg h, if_neg (by omega)]
theorem takeG_srt (b : Nat → Nat) (z : Nat) (G : Nat → Bool) {l : List Nat} (hx : ∀ x ∈ l, x < 12) : takeG b z G (srt (fun a => l.count a) 12) = takeG b z G l := by
  refine takeG_perm b z G (fun a => ?_)
  rw [srt_count]
  by_cases h : a < 12
  · rw [if_pos h]
  · rw [if_neg h]
    symm
    rw [List.count_eq_zero]
    exact fun hm => h (hx a hm)
/-- how many units of an article are left -/
def ug (G : Nat → Bool) (b : Nat → Nat) (a : Nat) : Nat → Nat
  | 0 => 0
  | n + 1 => ug G b a n + (if G n = false ∧ b n = a then 1 else 0)
theorem ug_pos {G : Nat → Bool} {b : Nat → Nat} {a : Nat} : ∀ n, 0 < ug G b a n → fo G b a n < n := by
  intro n
  induction n with
  | zero => intro h; cases h
  | succ n ih =>
    intro h
    unfold ug at h
    rw [fo_s]
    by_cases h2 : G n = false ∧ b n = a
    · rw [if_pos h2]
      split <;> omega
    · rw [if_neg h2] at h
      rw [if_pos (ih h)]
      have := ih h
      omega
theorem ug_st {G : Nat → Bool} {b : Nat → Nat} {z i : Nat} (hG : G i = false) (c : Nat) : ∀ n, ug (fun j => G j || decide (j = i)) b c n + (if i < n ∧ b i = c then 1 else 0) = ug G b c n := by
  intro n
  induction n with
  | zero => rfl
  | succ n ih =>
    unfold ug
    by_cases e : n = i
    · subst e
      rw [if_neg (fun q => Nat.lt_irrefl _ q.1)] at ih
      have h1 : ¬ ((G n || decide (n = n)) = false ∧ b n = c) := fun q => by
        have := q.1
        rw [decide_eq_true rfl, Bool.or_true] at this
        cases this
      rw [if_neg h1]
      by_cases hb : b n = c
      · rw [if_pos ⟨by omega, hb⟩, if_pos ⟨hG, hb⟩]; omega
      · rw [if_neg (fun q => hb q.2), if_neg (fun q => hb q.2)]; omega
    · rw [decide_eq_false e, Bool.or_false]
      by_cases hb : i < n ∧ b i = c
      · rw [if_pos hb] at ih
        rw [if_pos (show i < n + 1 ∧ b i = c from ⟨by omega, hb.2⟩)]; omega
      · rw [if_neg hb] at ih
        rw [if_neg (show ¬ (i < n + 1 ∧ b i = c) from fun q => hb ⟨by omega, q.2⟩)]; omega
def sL (C : Nat → Nat) : List Nat → Nat
  | [] => 0
  | a :: r => C a + sL C r
theorem sL_pr (C : Nat → Nat) : ∀ l : List Nat, (∀ x ∈ l, x < 12) → sL C l = pr C (fun a => l.count a) 12 := by
  intro l
  induction l with
  | nil => intro _; symm; exact pr_zero C 12 (fun d _ => List.count_nil)
  | cons a r ih =>
    intro h
    have e : pr C (fun d => (a :: r).count d) 12 = pr C (fun d => r.count d + unitV a d) 12 := pr_congr 12 (fun d _ => by
      rw [cnt_cons]
      unfold unitV
      by_cases e : a = d
      · rw [if_pos e, if_pos e.symm]
      · rw [if_neg e, if_neg (fun h => e h.symm)])
    rw [e, pr_add, pr_unit, if_pos (h a List.mem_cons_self), ← ih (fun x hx => h x (List.mem_cons_of_mem _ hx))]
    show C a + sL C r = _
    omega
theorem smm_st {G G0 : Nat → Bool} {i : Nat} {f : Nat → Nat} (hG : G i = false) (hG0 : G0 i = false) : ∀ n, smm (fun j => (G j || decide (j = i)) && !G0 j) f n = smm (fun j => G j && !G0 j) f n + (if i < n then f i else 0) := by
  intro n
  induction n with
  | zero => rfl
  | succ n ih =>
    show smm (fun j => (G j || decide (j = i)) && !G0 j) f n + (if ((G n || decide (n = i)) && !G0 n) = true then f n else 0) = smm (fun j => G j && !G0 j) f n + (if (G n && !G0 n) = true then f n else 0) + _
    rw [ih]
    by_cases e : n = i
    · subst e
      rw [if_neg (Nat.lt_irrefl _), decide_eq_true rfl, hG, hG0, if_pos (show n < n + 1 by omega)]
      show _ + 0 + (if true = true then f n else 0) = _ + (if false = true then f n else 0) + f n
      rw [if_pos rfl, if_neg (by decide)]
    · rw [decide_eq_false e, Bool.or_false]
      by_cases h : i < n
      · rw [if_pos h, if_pos (show i < n + 1 by omega)]; omega
      · rw [if_neg h, if_neg (show ¬ i < n + 1 by omega)]; omega
theorem take_all {b : Nat → Nat} {z : Nat} {C : Nat → Nat} {G0 : Nat → Bool} : ∀ (l : List Nat) (G : Nat → Bool), (∀ j, G j = false → G0 j = false) → (∀ a, l.count a ≤ ug G b a z) →
    (∀ j, takeG b z G l j = false → G j = false) ∧ (∀ a, ug (takeG b z G l) b a z + l.count a = ug G b a z) ∧ smm (fun j => takeG b z G l j && !G0 j) (fun j => C (b j)) z = smm (fun j => G j && !G0 j) (fun j => C (b j)) z + sL C l := by
  intro l
  induction l with
  | nil => intro G _ _; exact ⟨fun _ h => h, fun a => rfl, rfl⟩
  | cons a r ih =>
    intro G hG hc
    have ha : 0 < ug G b a z := by
      have := hc a
      rw [cnt_cons, if_pos rfl] at this; omega
    have hlt := ug_pos z ha
    obtain ⟨⟨f1, f2⟩, f3⟩ := fo_lt (G := G) (b := b) (a := a) z hlt
    have hug : ∀ c, ug (stG b z G a) b c z + (if a = c then 1 else 0) = ug G b c z := by
      intro c
      have := ug_st (z := z) (b := b) f1 c z
      have e : (if fo G b a z < z ∧ b (fo G b a z) = c then 1 else 0) = (if a = c then 1 else 0) := by
        by_cases hac : a = c
        · rw [if_pos hac, if_pos ⟨hlt, f2.trans hac⟩]
        · rw [if_neg hac, if_neg (fun q => hac (f2.symm.trans q.2))]
      rw [e] at this
      exact this
    have hst : ∀ j, stG b z G a j = false → G j = false := fun j h => by
      unfold stG at h
      rw [Bool.or_eq_false_iff] at h
      exact h.1
    obtain ⟨i1, i2, i3⟩ := ih (stG b z G a) (fun j h => hG j (hst j h)) (fun c => by
      have h1 := hug c
      have h2 := hc c
      rw [cnt_cons] at h2
      omega)
    refine ⟨fun j h => hst j (i1 j h), fun c => ?_, ?_⟩
    · have h1 := i2 c
      have h2 := hug c
      rw [cnt_cons]
      show ug (takeG b z (stG b z G a) r) b c z + _ = _
      omega
    · show smm (fun j => takeG b z (stG b z G a) r j && !G0 j) (fun j => C (b j)) z = _
      rw [i3]
      have h1 := smm_st (f := fun j => C (b j)) f1 (hG _ f1) z
      rw [if_pos hlt, f2] at h1
      have h2 : smm (fun j => stG b z G a j && !G0 j) (fun j => C (b j)) z = smm (fun j => G j && !G0 j) (fun j => C (b j)) z + C a := h1
      rw [h2]
      show _ = _ + (C a + sL C r)
      omega
theorem smm_none {G : Nat → Bool} {f : Nat → Nat} : ∀ n, smm (fun j => G j && !G j) f n = 0 := by
  intro n
  induction n with
  | zero => rfl
  | succ n ih =>
    show smm (fun j => G j && !G j) f n + (if (G n && !G n) = true then f n else 0) = 0
    rw [ih, Bool.and_not_self, if_neg (by decide)]
theorem smm_congr {m : Nat → Bool} {f g : Nat → Nat} : ∀ n, (∀ j, j < n → m j = true → f j = g j) → smm m f n = smm m g n := by
  intro n
  induction n with
  | zero => intro _; rfl
  | succ n ih =>
    intro h
    show smm m f n + (if m n then f n else 0) = smm m g n + (if m n then g n else 0)
    rw [ih (fun j hj => h j (by omega))]
    by_cases hm : m n = true
    · rw [if_pos hm, if_pos hm, h n (by omega) hm]
    · rw [if_neg hm, if_neg hm]
