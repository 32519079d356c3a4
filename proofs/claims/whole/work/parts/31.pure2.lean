/-! offers, as numbers: O 0 kind, O 1 n, O 2 value, O 3 most, O 4 runs, O (5 + s) set s -/
def okO (O : Nat → Nat) : Prop := O 0 ≤ 3 ∧ 2 ≤ O 1 ∧ O 1 ≤ 4 ∧ O 2 ≤ 400000 ∧ O 3 ≤ 5 ∧ O 4 ≤ 1 ∧ ∀ s, s < 4 → O (5 + s) < 4096
def repO (ω : St) (O : Nat → Nat) : Prop := (∀ j, j < 5 → ω j 0 = nI (O j)) ∧ (∀ s, s < 4 → ω 5 s = nI (O (5 + s))) ∧ okO O
def uLen (O : Nat → Nat) : Nat := if O 0 = 3 then 2 else O 1
def sIdx (O : Nat → Nat) (p : Nat) : Nat := if O 0 = 2 then p else 0
def tk (O : Nat → Nat) (p a : Nat) : Bool := (O (5 + sIdx O p)).testBit a
/-- some place of the first n takes a -/
def lk (O : Nat → Nat) (a : Nat) : Nat → Bool
  | 0 => false
  | n + 1 => lk O a n || tk O n a
theorem uLen_le {O : Nat → Nat} (h : okO O) : 2 ≤ uLen O ∧ uLen O ≤ 4 := by
  obtain ⟨h0, h1, h2, -⟩ := h
  unfold uLen
  split <;> omega
theorem eqL {n m : Nat} (hn : n < 2 ^ 31) (hm : m < 2 ^ 31) : nI n = nI m ↔ n = m := nI_eq hn hm
theorem sh_a : ∀ a, a < 12 → ((nI a &&& 31).toBitVec.smod 32).toNat = a := by decide +kernel
theorem bitN {m a : Nat} (hm : m < 4096) (ha : a < 12) : ((nI m >>> (nI a &&& 31)) &&& 1) = nI (if m.testBit a then 1 else 0) := by
  rw [pk_shrN (by omega) _ a (sh_a a ha), pk_andN (by have : m / 2 ^ a ≤ m := Nat.div_le_self _ _; omega) 1 (by decide)]
  congr 1
  rw [Nat.testBit_eq_decide_div_mod_eq]
  by_cases h : m / 2 ^ a % 2 = 1
  · simp [h]
  · simp [h]; omega
theorem pf_unitsOfUse (N : Nat) {ω : St} {O : Nat → Nat} (h : repO ω O) (post : Int32 → Unit → Prop) (hp : post (nI (uLen O)) ()) : wp_Offer_unitsOfUse N ω post := by
  obtain ⟨h1, -, h3⟩ := h
  unfold wp_Offer_unitsOfUse uLen at *
  have hk := h3.1
  rw [h1 0 (by omega), show (3 : Int32) = nI 3 from rfl, eqL (by omega) (by omega), h1 1 (by omega)]
  refine ⟨fun hc => ?_, fun hc => ?_⟩
  · rw [if_neg hc] at hp; exact hp
  · rw [if_pos hc] at hp; exact hp
theorem pf_takesAt (N : Nat) {ω : St} {O : Nat → Nat} (h : repO ω O) {p a : Nat} (hp4 : p < 4) (ha : a < 12) (post : Int32 → Unit → Prop) (hp : post (nI (if tk O p a then 1 else 0)) ()) : wp_Offer_takesAt N ω (nI p) (nI a) post := by
  obtain ⟨h1, h2, h3⟩ := h
  have hk := h3.1
  have key : ∀ q, q < 4 → post (nI (if (O (5 + q)).testBit a then 1 else 0)) () → wp_Offer_takesAt_13 N ω post (nI a) (nI q) := by
    intro q hq hpo
    unfold wp_Offer_takesAt_13 wp_Offer_takesAt_45
    refine ⟨fun hc => absurd hc (nI_pos (by omega)), fun _ => ⟨fun hc => ?_, fun _ => ⟨vp_in_nI hq (by decide), ?_⟩⟩⟩
    · rw [show (4 : Int32) = nI 4 from rfl, leL (by decide) (by omega)] at hc; omega
    · rw [nI_clamp (by omega), h2 q hq, bitN (h3.2.2.2.2.2.2 q hq) ha]
      by_cases hb : (O (5 + q)).testBit a = true
      · rw [if_pos hb] at hpo ⊢
        exact ⟨fun hc => absurd rfl hc, fun _ => hpo⟩
      · rw [if_neg hb] at hpo ⊢
        exact ⟨fun _ => hpo, fun hc => absurd hc (by decide)⟩
  unfold wp_Offer_takesAt
  unfold tk sIdx at hp
  rw [h1 0 (by omega), show (2 : Int32) = nI 2 from rfl, eqL (by omega) (by omega)]
  refine ⟨fun hc => ?_, fun hc => ?_⟩
  · rw [if_neg hc] at hp; exact key 0 (by omega) hp
  · rw [if_pos hc] at hp; exact key p hp4 hp
theorem pf_OlooksAt_l (N : Nat) {ω : St} {O : Nat → Nat} (h : repO ω O) {a : Nat} (ha : a < 12) (post : Int32 → Unit → Prop) (hp : post (nI (if lk O a (uLen O) then 1 else 0)) ()) : ∀ (n i : Nat), i ≤ uLen O → uLen O - i < n → lk O a i = false → wp_Offer_looksAt_2 N ω post n (nI a) (nI i) := by
  have hu := uLen_le h.2.2
  have mono : ∀ i j, i ≤ j → lk O a i = true → lk O a j = true := by
    intro i j hij hi
    induction j with
    | zero => have : i = 0 := by omega
              subst this; exact hi
    | succ j ih =>
      by_cases hj : i = j + 1
      · subst hj; exact hi
      · unfold lk; rw [ih (by omega)]; rfl
  intro n
  induction n with
  | zero => intro i _ h2; omega
  | succ n ih =>
    intro i hi hn hl
    rw [wp_Offer_looksAt_2]
    refine pf_unitsOfUse N h _ ⟨fun hc => ?_, fun hc => ?_⟩
    · rw [leL (by omega) (by omega)] at hc
      have : i = uLen O := by omega
      subst this
      rw [hl] at hp
      exact hp
    · rw [leL (by omega) (by omega)] at hc
      refine pf_takesAt N h (by omega) ha _ ?_
      by_cases ht : tk O i a = true
      · rw [if_pos ht]
        refine ⟨fun hz => absurd hz (by decide), fun _ => ?_⟩
        have h1 : lk O a (i + 1) = true := by unfold lk; rw [ht]; simp
        rw [mono (i + 1) (uLen O) (by omega) h1] at hp
        exact hp
      · rw [if_neg ht]
        refine ⟨fun _ => ?_, fun hz => absurd rfl hz⟩
        rw [nI_1]
        refine ih (i + 1) (by omega) (by omega) ?_
        unfold lk
        rw [hl]
        simp at ht ⊢
        exact ht
theorem pf_OlooksAt (N : Nat) (hN : 5 ≤ N) {ω : St} {O : Nat → Nat} (h : repO ω O) {a : Nat} (ha : a < 12) (post : Int32 → Unit → Prop) (hp : post (nI (if lk O a (uLen O) then 1 else 0)) ()) : wp_Offer_looksAt N ω (nI a) post := by
  have hu := uLen_le h.2.2
  exact pf_OlooksAt_l N h ha post hp N 0 (by omega) (by omega) rfl
