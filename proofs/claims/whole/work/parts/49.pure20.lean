/-! counting: an offer has at most 210 kept uses -/
def BN : Nat → Nat → Nat
  | _, 0 => 1
  | 0, _ + 1 => 0
  | m + 1, k + 1 => BN m (k + 1) + BN m k
theorem BN_0 (m : Nat) : BN m 0 = 1 := by cases m <;> rfl
theorem BN_ss (m k : Nat) : BN (m + 1) (k + 1) = BN m (k + 1) + BN m k := rfl
theorem BN_mono1 (m k : Nat) : BN m k ≤ BN (m + 1) k := by
  cases k with
  | zero => rw [BN_0, BN_0]; exact Nat.le_refl _
  | succ k => rw [BN_ss]; omega
theorem BN_mono (k : Nat) {m : Nat} : ∀ n, m ≤ n → BN m k ≤ BN n k := by
  intro n
  induction n with
  | zero =>
    intro h
    have : m = 0 := by omega
    subst this; exact Nat.le_refl _
  | succ n ih =>
    intro h
    by_cases hm : m = n + 1
    · subst hm; exact Nat.le_refl _
    · exact Nat.le_trans (ih (by omega)) (BN_mono1 n k)
def sm (t : Nat → Nat) : Nat → Nat
  | 0 => 0
  | n + 1 => sm t n + t n
theorem sm_s (t : Nat → Nat) (n : Nat) : sm t (n + 1) = sm t n + t n := rfl
def cin (f : Nat → List Nat) (s : Nat) : Nat → Nat → List Nat
  | 0, k => f k
  | _ + 1, 0 => f 0
  | u + 1, k + 1 => f (k + 1) ++ (cin f s u k).map (fun x => x + s)
def cdl (t : Nat → Nat) : Nat → Nat → List Nat
  | 0, 0 => [0]
  | 0, _ + 1 => []
  | n + 1, k => cin (cdl t n) (str t n) (t n) k
theorem cin_mem {f : Nat → List Nat} {s x : Nat} : ∀ (u c k : Nat), c ≤ u → c ≤ k → x ∈ f (k - c) → x + c * s ∈ cin f s u k := by
  intro u
  induction u with
  | zero =>
    intro c k h1 h2 h3
    have : c = 0 := by omega
    subst this
    rw [Nat.zero_mul, Nat.add_zero]; exact h3
  | succ u ih =>
    intro c k h1 h2 h3
    cases k with
    | zero =>
      have : c = 0 := by omega
      subst this
      rw [Nat.zero_mul, Nat.add_zero]; exact h3
    | succ k =>
      show _ ∈ f (k + 1) ++ (cin f s u k).map (fun x => x + s)
      cases c with
      | zero => rw [Nat.zero_mul, Nat.add_zero]; exact List.mem_append.mpr (Or.inl h3)
      | succ c =>
        refine List.mem_append.mpr (Or.inr (List.mem_map.mpr ⟨x + c * s, ih c k (by omega) (by omega) ?_, ?_⟩))
        · rw [show k + 1 - (c + 1) = k - c by omega] at h3; exact h3
        · show x + c * s + s = x + (c + 1) * s
          rw [Nat.succ_mul]; omega
theorem cin_len {f : Nat → List Nat} {s m : Nat} (hf : ∀ k, (f k).length ≤ BN m k) : ∀ (u k : Nat), (cin f s u k).length ≤ BN (m + u) k := by
  intro u
  induction u with
  | zero => intro k; exact hf k
  | succ u ih =>
    intro k
    cases k with
    | zero =>
      show (f 0).length ≤ _
      have := hf 0
      rw [BN_0] at *; exact this
    | succ k =>
      show (f (k + 1) ++ (cin f s u k).map (fun x => x + s)).length ≤ BN (m + u + 1) (k + 1)
      rw [List.length_append, List.length_map, BN_ss]
      have h1 := hf (k + 1)
      have h2 := ih k
      have h3 := BN_mono (k + 1) (m := m) (m + u) (by omega)
      omega
theorem cdl_mem {t c : Nat → Nat} : ∀ n, (∀ a, a < n → c a ≤ t a) → encN t c n ∈ cdl t n (sm c n) := by
  intro n
  induction n with
  | zero => intro _; exact List.mem_singleton.mpr rfl
  | succ n ih =>
    intro h
    rw [encN_s, sm_s]
    show _ ∈ cin (cdl t n) (str t n) (t n) _
    refine cin_mem _ _ _ (h n (by omega)) (by omega) ?_
    rw [Nat.add_sub_cancel]
    exact ih (fun a ha => h a (by omega))
theorem cdl_len (t : Nat → Nat) : ∀ n k, (cdl t n k).length ≤ BN (sm t n) k := by
  intro n
  induction n with
  | zero =>
    intro k
    cases k with
    | zero => exact Nat.le_refl _
    | succ k => exact Nat.le_refl _
  | succ n ih => intro k; exact cin_len ih _ _
theorem cdl_210 {t : Nat → Nat} (ht : sm t 12 ≤ 10) {k : Nat} (hk : k ≤ 4) : (cdl t 12 k).length ≤ 210 := by
  have h1 := cdl_len t 12 k
  have h2 := BN_mono k (m := sm t 12) 10 ht
  have h3 : ∀ k, k ≤ 4 → BN 10 k ≤ 210 := by decide +kernel
  have := h3 k hk
  omega
theorem php : ∀ (M L : List Nat), M.Nodup → (∀ x ∈ M, x ∈ L) → M.length ≤ L.length := by
  intro M
  induction M with
  | nil => intro L _ _; exact Nat.zero_le _
  | cons a r ih =>
    intro L hn hs
    obtain ⟨h1, h2⟩ := List.nodup_cons.mp hn
    have ha : a ∈ L := hs a List.mem_cons_self
    have h3 := ih (L.erase a) h2 (fun x hx => by
      have hxa : x ≠ a := fun e => h1 (e ▸ hx)
      exact (List.mem_erase_of_ne hxa).mpr (hs x (List.mem_cons_of_mem _ hx)))
    rw [List.length_erase_of_mem ha] at h3
    have : 0 < L.length := List.length_pos_of_mem ha
    rw [List.length_cons]; omega
theorem str_pow (t : Nat → Nat) : ∀ n, str t n ≤ 2 ^ sm t n := by
  intro n
  induction n with
  | zero => exact Nat.le_refl _
  | succ n ih =>
    rw [str_s, sm_s, Nat.pow_add]
    exact Nat.mul_le_mul ih (Nat.lt_two_pow_self)
theorem str_1024 {t : Nat → Nat} (ht : sm t 12 ≤ 10) : str t 12 ≤ 1024 := by
  have h1 := str_pow t 12
  have h2 : 2 ^ sm t 12 ≤ 2 ^ 10 := Nat.pow_le_pow_right (by decide) ht
  omega
theorem sm_add (e f : Nat → Nat) : ∀ n, sm (fun d => e d + f d) n = sm e n + sm f n := by
  intro n
  induction n with
  | zero => rfl
  | succ n ih => rw [sm_s, sm_s, sm_s, ih]; omega
theorem sm_le {e f : Nat → Nat} : ∀ n, (∀ d, d < n → e d ≤ f d) → sm e n ≤ sm f n := by
  intro n
  induction n with
  | zero => intro _; exact Nat.le_refl _
  | succ n ih => intro h; rw [sm_s, sm_s]; have := ih (fun d hd => h d (by omega)); have := h n (by omega); omega
theorem sm_one (a : Nat) : ∀ n, sm (fun d => if a = d then 1 else 0) n = if a < n then 1 else 0 := by
  intro n
  induction n with
  | zero => rfl
  | succ n ih =>
    rw [sm_s, ih]
    by_cases h : a = n
    · subst h; rw [if_neg (by omega), if_pos rfl, if_pos (by omega)]
    · rw [if_neg h]
      by_cases h2 : a < n
      · rw [if_pos h2, if_pos (by omega)]
      · rw [if_neg h2, if_neg (by omega)]
theorem sm_zero : ∀ n, sm (fun _ => 0) n = 0 := by
  intro n
  induction n with
  | zero => rfl
  | succ n ih => rw [sm_s, ih]
theorem sm_congr {e f : Nat → Nat} : ∀ n, (∀ d, d < n → e d = f d) → sm e n = sm f n := by
  intro n
  induction n with
  | zero => intro _; rfl
  | succ n ih => intro h; rw [sm_s, sm_s, ih (fun d hd => h d (by omega)), h n (by omega)]
theorem sm_count : ∀ (l : List Nat), (∀ x ∈ l, x < 12) → sm (fun a => l.count a) 12 = l.length := by
  intro l
  induction l with
  | nil => intro _; exact sm_zero 12
  | cons b r ih =>
    intro h
    have h1 := ih (fun x hx => h x (List.mem_cons_of_mem _ hx))
    have h2 := h b List.mem_cons_self
    have h3 : sm (fun a => (b :: r).count a) 12 = sm (fun a => r.count a + (if b = a then 1 else 0)) 12 := sm_congr 12 (fun d _ => by
      show (b :: r).count d = _
      rw [List.count_cons]
      by_cases e : b = d
      · simp [e]
      · simp [e])
    rw [h3, sm_add, h1, sm_one, if_pos h2, List.length_cons]
theorem sm_cnt (f : Nat → Int32) : ∀ z, sm (fun a => cnt f (nI a) z) 12 ≤ z := by
  intro z
  induction z with
  | zero => rw [show (fun a => cnt f (nI a) 0) = (fun _ => 0) from rfl, sm_zero]; exact Nat.le_refl _
  | succ z ih =>
    show sm (fun a => cnt f (nI a) z + (if f z = nI a then 1 else 0)) 12 ≤ _
    rw [sm_add]
    have h1 : sm (fun a => if f z = nI a then 1 else 0) 12 ≤ 1 := by
      by_cases hq : ∃ b, b < 12 ∧ f z = nI b
      · obtain ⟨b, hb, e⟩ := hq
        have h2 : sm (fun a => if f z = nI a then 1 else 0) 12 = sm (fun d => if b = d then 1 else 0) 12 := sm_congr 12 (fun d hd => by
          show (if f z = nI d then 1 else 0) = (if b = d then 1 else 0)
          by_cases e2 : b = d
          · subst e2; rw [if_pos e, if_pos rfl]
          · rw [if_neg e2, if_neg (fun h => e2 ((eqL (by omega) (by omega)).mp (e.symm.trans h)))])
        rw [h2, sm_one, if_pos hb]; exact Nat.le_refl _
      · have h2 : sm (fun a => if f z = nI a then 1 else 0) 12 = sm (fun _ => 0) 12 := sm_congr 12 (fun d hd => by
          show (if f z = nI d then 1 else 0) = 0
          rw [if_neg (fun h => hq ⟨d, hd, h⟩)])
        rw [h2, sm_zero]; exact Nat.zero_le _
    omega
