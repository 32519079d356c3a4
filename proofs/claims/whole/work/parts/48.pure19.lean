/-! the class's uses: articles in rising order, packed; savings; what is met; chains -/
def srt (c : Nat → Nat) : Nat → List Nat
  | 0 => []
  | n + 1 => srt c n ++ List.replicate (c n) n
def pkl : List Nat → Nat
  | [] => 0
  | a :: r => a + 16 * pkl r
theorem srt_len_s (c : Nat → Nat) (n : Nat) : (srt c (n + 1)).length = (srt c n).length + c n := by
  show (srt c n ++ List.replicate (c n) n).length = _
  rw [List.length_append, List.length_replicate]
theorem srt_len_mono (c : Nat → Nat) {m : Nat} : ∀ n, m ≤ n → (srt c m).length ≤ (srt c n).length := by
  intro n
  induction n with
  | zero =>
    intro h
    have : m = 0 := by omega
    subst this; exact Nat.le_refl _
  | succ n ih =>
    intro h
    by_cases hm : m = n + 1
    · subst hm; exact Nat.le_refl _
    · rw [srt_len_s]; have := ih (by omega); omega
theorem srt_lt (c : Nat → Nat) : ∀ n, ∀ x ∈ srt c n, x < n := by
  intro n
  induction n with
  | zero => intro x h; cases h
  | succ n ih =>
    intro x h
    unfold srt at h
    rcases List.mem_append.mp h with h | h
    · have := ih x h; omega
    · have := (List.mem_replicate.mp h).2; omega
theorem pkl_snoc (a : Nat) : ∀ l : List Nat, pkl (l ++ [a]) = pkl l + a * 2 ^ (4 * l.length) := by
  intro l
  induction l with
  | nil => show a + 16 * 0 = 0 + a * 2 ^ (4 * 0); omega
  | cons b r ih =>
    show b + 16 * pkl (r ++ [a]) = b + 16 * pkl r + a * 2 ^ (4 * (r.length + 1))
    rw [ih, show 4 * (r.length + 1) = 4 * r.length + 4 by omega, Nat.pow_add, Nat.mul_add, show a * (2 ^ (4 * r.length) * 2 ^ 4) = 16 * (a * 2 ^ (4 * r.length)) by rw [← Nat.mul_assoc]; omega]
    omega
theorem pkl_lt : ∀ l : List Nat, (∀ x ∈ l, x < 16) → pkl l < 2 ^ (4 * l.length) := by
  intro l
  induction l with
  | nil => intro _; decide
  | cons b r ih =>
    intro h
    have h1 := ih (fun x hx => h x (List.mem_cons_of_mem _ hx))
    have h2 := h b List.mem_cons_self
    show b + 16 * pkl r < 2 ^ (4 * (r.length + 1))
    rw [show 4 * (r.length + 1) = 4 * r.length + 4 by omega, Nat.pow_add]
    omega
theorem or_add {b i : Nat} (h : b < 2 ^ i) (a : Nat) : b ||| a * 2 ^ i = b + a * 2 ^ i := by
  rw [Nat.or_comm, Nat.mul_comm, ← Nat.two_pow_add_eq_or_of_lt h a, Nat.add_comm]
theorem sh_4 : ∀ n, n ≤ 4 → (((4 * nI n) &&& 31).toBitVec.smod 32).toNat = 4 * n := by decide +kernel
theorem rep_s (k a : Nat) : List.replicate (k + 1) a = List.replicate k a ++ [a] := List.replicate_succ'
abbrev gA (c : Nat → Nat) (p : Nat) : Nat := (srt c 12).getD p 0
theorem pkl_pkd (o : Nat) : ∀ l : List Nat, l.length ≤ 4 → pkl l + l.length * 2 ^ 16 + o * 2 ^ 20 = pkd o l.length (l.getD 0 0) (l.getD 1 0) (l.getD 2 0) (l.getD 3 0) := by
  intro l h
  unfold pkd
  match l with
  | [] => simp [pkl]; omega
  | [a] => simp [pkl]; omega
  | [a, b] => simp [pkl]; omega
  | [a, b, c] => simp [pkl]; omega
  | [a, b, c, d] => simp [pkl]; omega
  | a :: b :: c :: d :: e :: r => simp at h
theorem pf_packTaken (N : Nat) (hN : 13 ≤ N) {υ : St} {c : Nat → Nat} (hc : ∀ a, a < 12 → υ 6 a = nI (c a)) (hl : (srt c 12).length ≤ 4) {o : Nat} (ho : o < 6) (post : Int32 → Unit → Prop) (hp : post (nI (pkd o (srt c 12).length (gA c 0) (gA c 1) (gA c 2) (gA c 3))) ()) : wp_Uses_packTaken N υ (nI o) post := by
  have hlt : ∀ a, a ≤ 12 → (srt c a).length ≤ 4 := fun a ha => Nat.le_trans (srt_len_mono c 12 ha) hl
  have hca : ∀ a, a < 12 → c a ≤ 4 := fun a ha => by
    have h1 := hlt (a + 1) (by omega)
    rw [srt_len_s] at h1; omega
  have inner : ∀ (K : Int32 → Int32 → Int32 → Int32 → Prop) (a : Nat), a < 12 → K (nI o) (nI (srt c (a + 1)).length) (nI (pkl (srt c (a + 1)))) (nI (a + 1)) → ∀ (n k : Nat), k ≤ c a → c a - k < n → wp_Uses_packTaken_17 N υ post K n (nI o) (nI (srt c a ++ List.replicate k a).length) (nI (pkl (srt c a ++ List.replicate k a))) (nI a) (nI k) := by
    intro K a ha hK n
    have h4 := hlt (a + 1) (by omega)
    rw [srt_len_s] at h4
    induction n with
    | zero => intro k _ h2; omega
    | succ n ih =>
      intro k hk hn
      rw [wp_Uses_packTaken_17, nI_clamp (by omega), hc a ha]
      refine ⟨vp_in_nI ha (by decide), pk_le (c a) k (fun hq => ?_) (fun hq => ?_)⟩
      · have : k = c a := by omega
        subst this
        rw [nI_1]; exact hK
      · have h1 := ih (k + 1) (by omega) (by omega)
        have hlen : (srt c a ++ List.replicate k a).length = (srt c a).length + k := by rw [List.length_append, List.length_replicate]
        rw [rep_s, ← List.append_assoc, pkl_snoc, List.length_append, List.length_singleton] at h1
        have hlt2 : pkl (srt c a ++ List.replicate k a) < 2 ^ (4 * (srt c a ++ List.replicate k a).length) := pkl_lt _ (fun x hx => by
          rcases List.mem_append.mp hx with h | h
          · have := srt_lt c a x h; omega
          · have := (List.mem_replicate.mp h).2; omega)
        have hsm : a * 2 ^ (4 * (srt c a ++ List.replicate k a).length) < 2 ^ 32 := by
          have e1 : (srt c a ++ List.replicate k a).length ≤ 3 := by omega
          have e2 : 2 ^ (4 * (srt c a ++ List.replicate k a).length) ≤ 2 ^ 12 := Nat.pow_le_pow_right (by decide) (by omega)
          have e3 : a * 2 ^ (4 * (srt c a ++ List.replicate k a).length) ≤ 12 * 2 ^ 12 := Nat.mul_le_mul (by omega) e2
          omega
        rw [pk_shlN _ (4 * (srt c a ++ List.replicate k a).length) (sh_4 _ (by omega)) hsm, orN, or_add hlt2, nI_1, nI_1]
        exact h1
  have outer : ∀ (n a : Nat), a ≤ 12 → 12 - a < n → wp_Uses_packTaken_7 N υ post n (nI o) (nI (srt c a).length) (nI (pkl (srt c a))) (nI a) := by
    intro n
    induction n with
    | zero => intro a _ h; omega
    | succ n ih =>
      intro a ha hn
      rw [wp_Uses_packTaken_7]
      refine pk_le 12 a (fun hq => ?_) (fun hq => ?_)
      · have : a = 12 := by omega
        subst this
        have h4 := hlt 12 (by omega)
        have hb : pkl (srt c 12) < 2 ^ 16 := by
          have e1 := pkl_lt (srt c 12) (fun x hx => by have := srt_lt c 12 x hx; omega)
          have e2 : 2 ^ (4 * (srt c 12).length) ≤ 2 ^ 16 := Nat.pow_le_pow_right (by decide) (by omega)
          omega
        rw [pk_shlN _ 16 (by decide +kernel) (by omega), pk_shlN _ 20 (by decide +kernel) (by omega), orN, orN, or_add hb, or_add (by omega), pkl_pkd o _ h4]
        exact hp
      · have h1 := inner (wp_Uses_packTaken_7 N υ post n) a (by omega) (ih (a + 1) (by omega) (by omega)) N 0 (by omega) (by have := hca a (by omega); omega)
        rw [List.replicate_zero, List.append_nil] at h1
        exact h1
  exact outer N 0 (by omega) (by omega)
theorem pf_savingOn (N : Nat) {ω : St} {O : Nat → Nat} (h : repO ω O) {P low : Nat} (hP : P ≤ 1000000) (hlP : low ≤ P) (hl : low ≤ 100000) (post : Int32 → Unit → Prop) (hn : P ≤ uCost O P low → ∀ r, r ≤ 0 → post r ()) (hy : uCost O P low < P → post (nI (P - uCost O P low)) ()) : wp_Offer_savingOn N ω (nI P) (nI low) post := by
  obtain ⟨h1, -, h3⟩ := h
  have hk := h3.1
  have hv := h3.2.2.2.1
  unfold wp_Offer_savingOn
  rw [h1 0 (by omega), h1 2 (by omega)]
  unfold uCost at hn hy
  refine pk_eq (O 0) 1 (fun e => ?_) (fun e => pk_eq (O 0) 3 (fun e3 => ?_) (fun e3 => ?_))
  · rw [if_pos e] at hn hy
    by_cases h0 : low = 0
    · subst h0
      exact hn (by omega) _ (show nI 0 ≤ 0 by decide +kernel)
    · have := hy (by omega)
      rw [show P - (P - low) = low by omega] at this
      exact this
  · rw [if_neg e, if_pos e3] at hn hy
    have key : ∀ p, p ≤ 100 → (if O 2 < 100 then O 2 else 100) = p → wp_Offer_savingOn_52 N ω post (nI low) (nI p) := by
      intro p hp he
      rw [he] at hn hy
      unfold wp_Offer_savingOn_52
      have hm : low * p ≤ low * 100 := Nat.mul_le_mul_left _ hp
      rw [pk_mul, show (50 : Int32) = nI 50 from rfl, show (100 : Int32) = nI 100 from rfl, nI_add, pk_div (by omega) (by decide) (by decide), pk_sub (by omega)]
      by_cases h0 : (low * p + 50) / 100 = low
      · exact hn (by omega) _ (by rw [h0, Nat.sub_self]; exact (show nI 0 ≤ 0 by decide +kernel))
      · have := hy (by omega)
        rw [show P - (P - low + (low * p + 50) / 100) = low - (low * p + 50) / 100 by omega] at this
        exact this
    exact pk_le 100 (O 2) (fun hq => key 100 (by omega) (by rw [if_neg (by omega)])) (fun hq => key (O 2) (by omega) (by rw [if_pos (by omega)]))
  · rw [if_neg e, if_neg e3] at hn hy
    by_cases h0 : O 2 < P
    · rw [pk_sub (by omega)]
      exact hy h0
    · refine hn (by omega) _ ?_
      rw [Int32.le_iff_toInt_le, pk_sub_toInt (by omega) (by omega)]
      show (P : Int) - (O 2 : Nat) ≤ 0
      omega
theorem pf_isNew (N : Nat) {υ : St} {x : Nat} (hx : x < 1024) (post : Int32 → St → Prop) (h1 : υ 7 x = υ 8 0 → post 0 υ) (h2 : υ 7 x ≠ υ 8 0 → post 1 (s2 υ 7 x (υ 8 0))) : wp_Uses_isNew N υ (nI x) post := by
  unfold wp_Uses_isNew wp_Uses_isNew_24
  rw [nI_clamp (by omega)]
  refine ⟨fun hc => absurd hc (nI_pos (by omega)), fun _ => pk_le 1024 x (fun hc => by omega) (fun _ => ⟨vp_in_nI hx (by decide), fun hq => ⟨vp_in_nI hx (by decide), fun υ6 e => ?_⟩, h1⟩)⟩
  rw [e]; exact h2 hq
theorem pf_link (N : Nat) {υ : St} {a z : Nat} (ha : a < 12) (hz : z < 1260) (h9 : υ 9 0 = nI z) (post : St → Prop)
    (h0 : υ 5 a = -1 → ∀ u : St, (∀ d, d ≠ 3 → d ≠ 4 → d ≠ 5 → u d = υ d) → u 5 a = nI z → u 4 a = nI z → (∀ b, b ≠ a → u 5 b = υ 5 b ∧ u 4 b = υ 4 b) → u 3 z = -1 → (∀ i, i ≠ z → u 3 i = υ 3 i) → post u)
    (h1 : ∀ j, j < z → υ 5 a = nI j → ∀ u : St, (∀ d, d ≠ 3 → d ≠ 4 → d ≠ 5 → u d = υ d) → u 5 a = nI z → u 4 a = υ 4 a → (∀ b, b ≠ a → u 5 b = υ 5 b ∧ u 4 b = υ 4 b) → u 3 z = -1 → u 3 j = nI z → (∀ i, i ≠ z → i ≠ j → u 3 i = υ 3 i) → post u)
    (hc : υ 5 a = -1 ∨ ∃ j, j < z ∧ υ 5 a = nI j) : wp_Uses_link N υ (nI a) post := by
  unfold wp_Uses_link
  rw [nI_clamp (by omega)]
  refine ⟨fun _ => ⟨vp_in_nI ha (by decide), fun hq => ?_, fun hq => ⟨vp_in_nI ha (by decide), fun υ7 e7 => ?_⟩⟩, fun hq => absurd (nI_lt ha (by decide)) hq⟩
  · rcases hc with hc | ⟨j, hj, hc⟩
    · exact absurd hc hq
    · rw [hc, nI_clamp (by omega)]
      refine ⟨vp_in_nI (by omega) (by decide), fun υ5 e5 => ?_⟩
      unfold wp_Uses_link_42
      rw [nI_clamp (by omega)]
      refine ⟨vp_in_nI ha (by decide), fun υ9 e9 => ?_⟩
      have e90 : υ9 9 0 = nI z := by rw [e9, s2_comp _ _ _ _ (by decide), e5, s2_comp _ _ _ _ (by decide), h9]
      rw [e90, nI_clamp (by omega)]
      refine ⟨vp_in_nI hz (by decide), fun υ11 e11 => ?_⟩
      refine h1 j hj hc υ11 (fun d d3 d4 d5 => ?_) ?_ ?_ (fun b hb => ⟨?_, ?_⟩) ?_ ?_ (fun i hi1 hi2 => ?_)
      · rw [e11, s2_comp _ _ _ _ d3, e9, s2_comp _ _ _ _ d5, e5, s2_comp _ _ _ _ d3]
      · rw [e11, s2_comp _ _ _ _ (by decide), e9, s2_same, e5, s2_comp _ _ _ _ (by decide), h9]
      · rw [e11, s2_comp _ _ _ _ (by decide), e9, s2_comp _ _ _ _ (by decide), e5, s2_comp _ _ _ _ (by decide)]
      · rw [e11, s2_comp _ _ _ _ (by decide), e9, s2_ne _ _ _ _ (Or.inr hb), e5, s2_comp _ _ _ _ (by decide)]
      · rw [e11, s2_comp _ _ _ _ (by decide), e9, s2_comp _ _ _ _ (by decide), e5, s2_comp _ _ _ _ (by decide)]
      · rw [e11, s2_same]
      · rw [e11, s2_ne _ _ _ _ (Or.inr (by omega)), e9, s2_comp _ _ _ _ (by decide), e5, s2_same, h9]
      · rw [e11, s2_ne _ _ _ _ (Or.inr hi1), e9, s2_comp _ _ _ _ (by decide), e5, s2_ne _ _ _ _ (Or.inr hi2)]
  · unfold wp_Uses_link_42
    rw [nI_clamp (by omega)]
    refine ⟨vp_in_nI ha (by decide), fun υ9 e9 => ?_⟩
    have e90 : υ9 9 0 = nI z := by rw [e9, s2_comp _ _ _ _ (by decide), e7, s2_comp _ _ _ _ (by decide), h9]
    rw [e90, nI_clamp (by omega)]
    refine ⟨vp_in_nI hz (by decide), fun υ11 e11 => ?_⟩
    refine h0 hq υ11 (fun d d3 d4 d5 => ?_) ?_ ?_ (fun b hb => ⟨?_, ?_⟩) ?_ (fun i hi1 => ?_)
    · rw [e11, s2_comp _ _ _ _ d3, e9, s2_comp _ _ _ _ d5, e7, s2_comp _ _ _ _ d4]
    · rw [e11, s2_comp _ _ _ _ (by decide), e9, s2_same, e7, s2_comp _ _ _ _ (by decide), h9]
    · rw [e11, s2_comp _ _ _ _ (by decide), e9, s2_comp _ _ _ _ (by decide), e7, s2_same, h9]
    · rw [e11, s2_comp _ _ _ _ (by decide), e9, s2_ne _ _ _ _ (Or.inr hb), e7, s2_comp _ _ _ _ (by decide)]
    · rw [e11, s2_comp _ _ _ _ (by decide), e9, s2_comp _ _ _ _ (by decide), e7, s2_ne _ _ _ _ (Or.inr hb)]
    · rw [e11, s2_same]
    · rw [e11, s2_ne _ _ _ _ (Or.inr hi1), e9, s2_comp _ _ _ _ (by decide), e7, s2_comp _ _ _ _ (by decide)]
