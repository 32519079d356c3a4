/-! the reference: offers of a book, what they look at -/
def repK (μ : St) (k : Nat) (O : Nat → Nat) : Prop := μ 2 k = nI (O 0) ∧ μ 3 k = nI (O 1) ∧ μ 4 k = nI (O 2) ∧ μ 5 k = nI (O 3) ∧ μ 6 k = nI (O 4) ∧ (∀ s, s < 4 → μ 7 (4 * k + s) = nI (O (5 + s))) ∧ okO O
def repM (μ : St) (b : Nat) (Os : Nat → Nat → Nat) : Prop := b ≤ 12 ∧ μ 23 0 = nI b ∧ ∀ i, i < 6 → repK μ (6 * b + i) (Os i)
theorem orN (a b : Nat) : nI a ||| nI b = nI (a ||| b) := by
  unfold nI
  apply Int32.toBitVec_inj.mp
  rw [Int32.toBitVec_or]
  show BitVec.ofNat 32 a ||| BitVec.ofNat 32 b = BitVec.ofNat 32 (a ||| b)
  apply BitVec.eq_of_getLsbD_eq
  intro i hi
  simp [BitVec.getLsbD_or, BitVec.getLsbD_ofNat, hi, Nat.testBit_or]
def lkm (O : Nat → Nat) : Nat → Nat
  | 0 => 0
  | n + 1 => lkm O n ||| O (5 + sIdx O n)
theorem lkm_bit (O : Nat → Nat) (a : Nat) : ∀ n, (lkm O n).testBit a = lk O a n := by
  intro n
  induction n with
  | zero => simp [lkm, lk]
  | succ n ih => unfold lkm lk; rw [Nat.testBit_or, ih]; rfl
theorem lkm_lt {O : Nat → Nat} (h : okO O) : ∀ n, n ≤ 4 → lkm O n < 4096 := by
  intro n
  induction n with
  | zero => intro _; exact Nat.zero_lt_succ _
  | succ n ih =>
    intro hn
    unfold lkm
    refine Nat.or_lt_two_pow (n := 12) (ih (by omega)) (h.2.2.2.2.2.2 _ ?_)
    unfold sIdx; split <;> omega
theorem pf_lengthOf (N : Nat) {μ : St} {k : Nat} {O : Nat → Nat} (hk : k < 78) (h : repK μ k O) (post : Int32 → Unit → Prop) (hp : post (nI (uLen O)) ()) : wp_Model_lengthOf N μ (nI k) post := by
  obtain ⟨h2, h3, -, -, -, -, ok⟩ := h
  have hk3 := ok.1
  unfold wp_Model_lengthOf
  unfold uLen at hp
  rw [nI_clamp (by omega), h2, h3, show (3 : Int32) = nI 3 from rfl, eqL (by omega) (by omega)]
  refine ⟨vp_in_nI hk (by decide), fun hc => ⟨vp_in_nI hk (by decide), ?_⟩, fun hc => ?_⟩
  · rw [if_neg hc] at hp; exact hp
  · rw [if_pos hc] at hp; exact hp
theorem pf_setOf (N : Nat) {μ : St} {k p : Nat} {O : Nat → Nat} (hk : k < 78) (hp4 : p < 4) (h : repK μ k O) (post : Int32 → Unit → Prop) (hp : post (nI (O (5 + sIdx O p))) ()) : wp_Model_setOf N μ (nI k) (nI p) post := by
  obtain ⟨h2, -, -, -, -, hs, ok⟩ := h
  have hk3 := ok.1
  have key : ∀ q, q < 4 → post (nI (O (5 + q))) () → wp_Model_setOf_22 N μ post (nI q) (4 * nI k) := by
    intro q hq hpo
    unfold wp_Model_setOf_22
    rw [show (4 : Int32) = nI 4 from rfl, pk_mul, nI_add, nI_clamp (by omega), hs q hq]
    exact ⟨vp_in_nI (by omega) (by decide), hpo⟩
  unfold wp_Model_setOf
  unfold sIdx at hp
  rw [nI_clamp (by omega), h2, show (2 : Int32) = nI 2 from rfl, eqL (by omega) (by omega)]
  refine ⟨vp_in_nI hk (by decide), fun hc => ?_, fun hc => ?_⟩
  · rw [if_neg hc] at hp; exact key 0 (by omega) hp
  · rw [if_pos hc] at hp; exact key p hp4 hp
theorem pf_looked (N : Nat) (hN : 5 ≤ N) {μ : St} {k : Nat} {O : Nat → Nat} (hk : k < 78) (h : repK μ k O) (post : Int32 → Unit → Prop) (hp : post (nI (lkm O (uLen O))) ()) : wp_Model_looked N μ (nI k) post := by
  have hu := uLen_le h.2.2.2.2.2.2
  have main : ∀ (n i : Nat), i ≤ uLen O → uLen O - i < n → wp_Model_looked_4 N μ post n (nI k) (nI (lkm O i)) (nI i) := by
    intro n
    induction n with
    | zero => intro i _ h2; omega
    | succ n ih =>
      intro i hi hn
      rw [wp_Model_looked_4]
      refine pf_lengthOf N hk h _ ⟨fun hc => ?_, fun hc => ?_⟩
      · rw [leL (by omega) (by omega)] at hc
        have : i = uLen O := by omega
        rw [this]; exact hp
      · rw [leL (by omega) (by omega)] at hc
        refine pf_setOf N hk (by omega) h _ ?_
        rw [orN, nI_1]
        exact ih (i + 1) (by omega) (by omega)
  exact main N 0 (by omega) (by omega)
theorem pf_MlooksAt (N : Nat) (hN : 7 ≤ N) {μ : St} {b : Nat} {Os : Nat → Nat → Nat} (h : repM μ b Os) {a : Nat} (ha : a < 12) (post : Int32 → Unit → Prop) (hp : post (nI (if lkT Os a 6 then 1 else 0)) ()) : wp_Model_looksAt N μ (nI a) post := by
  obtain ⟨hb, hbk, hO⟩ := h
  have main : ∀ (n i : Nat), i ≤ 6 → 6 - i < n → lkT Os a i = false → wp_Model_looksAt_2 N μ post n (nI a) (nI i) := by
    intro n
    induction n with
    | zero => intro i _ h2; omega
    | succ n ih =>
      intro i hi hn hl
      rw [wp_Model_looksAt_2]
      refine ⟨fun hc => ?_, fun hc => ?_⟩
      · rw [show (6 : Int32) = nI 6 from rfl, leL (by decide) (by omega)] at hc
        have : i = 6 := by omega
        subst this
        rw [hl] at hp; exact hp
      · rw [show (6 : Int32) = nI 6 from rfl, leL (by decide) (by omega)] at hc
        have hK := hO i (by omega)
        have h4 := hK.2.2.2.2.2.2.2.2.2.2.2.1
        have next : lkT Os a (i + 1) = false → wp_Model_looksAt_48 N μ post (wp_Model_looksAt_2 N μ post n) (nI a) (nI i) := by
          intro hf
          unfold wp_Model_looksAt_48
          rw [nI_1]
          exact ih (i + 1) (by omega) (by omega) hf
        rw [hbk, show (6 : Int32) = nI 6 from rfl, pk_mul, nI_add, nI_clamp (by omega), hK.2.2.2.2.1, show (0 : Int32) = nI 0 from rfl, eqL (by omega) (by omega)]
        refine ⟨vp_in_nI (by omega) (by decide), fun hz => next ?_, fun hz => ?_⟩
        · unfold lkT
          rw [hl, hz]; rfl
        · have h41 : Os i 4 = 1 := by omega
          have hu := uLen_le hK.2.2.2.2.2.2
          refine pf_looked N (by omega) (by omega) hK _ ?_
          rw [bitN (lkm_lt hK.2.2.2.2.2.2 _ hu.2) ha, lkm_bit]
          by_cases hk : lk (Os i) a (uLen (Os i)) = true
          · rw [if_pos hk]
            refine ⟨fun hq => absurd rfl hq, fun _ => ?_⟩
            have h1 : lkT Os a (i + 1) = true := by unfold lkT; rw [hk, h41]; simp
            rw [lkT_mono 6 (by omega) h1] at hp
            exact hp
          · rw [if_neg hk]
            refine ⟨fun _ => next ?_, fun hq => absurd hq (by decide)⟩
            unfold lkT
            rw [hl]
            simp at hk
            rw [hk]; simp
  exact main N 0 (by omega) (by omega) rfl
