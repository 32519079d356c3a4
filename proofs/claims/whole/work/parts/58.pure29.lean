/-! the reference: unfold -/
theorem div_str (t : Nat → Nat) (s d : Nat) : s / str t d / (t d + 1) = s / str t (d + 1) := by rw [Nat.div_div_eq_div_mul, str_s]
theorem tN_cnt {Os : Nat → Nat → Nat} {b : Nat → Nat} {z a : Nat} (ha : a < 12) (h : 0 < tN Os b z a) : tN Os b z a = cnt (nB b) (nI a) z := by
  rw [tN_lo ha] at h ⊢
  split at h
  · rename_i hk; rw [if_pos hk]
  · omega
theorem pf_unfold (N : Nat) (hN : 13 ≤ N) {μ0 : St} {bk : Nat} {Os : Nat → Nat → Nat} {C b : Nat → Nat} {z : Nat} (hR : repR μ0 bk Os C b z) (h3000 : str (tN Os b z) 18 ≤ 3000) {s : Nat} (hs : s < 3000) (post : St → Prop)
    (hp : ∀ u : St, (∀ d, d ≠ 24 → d ≠ 25 → u d = μ0 d) → (∀ a, a < 12 → u 24 a = nI (dg (tN Os b z) s a)) → (∀ o, o < 6 → u 25 o = nI (dg (tN Os b z) s (12 + o))) → post u) : wp_Model_unfold N μ0 (nI s) post := by
  have hz := hR.1.2.2.1
  have hbk := hR.1.1.1
  have hsd : ∀ d, s / str (tN Os b z) d < 3000 := fun d => Nat.lt_of_le_of_lt (Nat.div_le_self _ _) hs
  have hsl : ∀ d, d ≤ 18 → str (tN Os b z) d ≤ 3000 := fun d hd => by
    by_cases e : d = 18
    · subst e; exact h3000
    · obtain ⟨K, e2⟩ := str_mul (tN Os b z) d 18 (by omega)
      have hp := str_pos (tN Os b z) 18
      have h1 : 1 ≤ (tN Os b z d + 1) * K := by
        rcases Nat.eq_zero_or_pos ((tN Os b z d + 1) * K) with h | h
        · rw [h, Nat.mul_zero] at e2; omega
        · exact h
      have h2 : str (tN Os b z) d * 1 ≤ str (tN Os b z) d * ((tN Os b z d + 1) * K) := Nat.mul_le_mul_left _ h1
      omega
  have hpl : ∀ d, d < 18 → pl (tN Os b z) d ≤ 3000 := fun d hd => by
    unfold pl
    split
    · exact hsl d (by omega)
    · omega
  have loopO : ∀ (n o : Nat) (μ : St), o ≤ 6 → 6 - o < n → (∀ d, d ≠ 24 → d ≠ 25 → μ d = μ0 d) → (∀ a, a < 12 → μ 24 a = nI (dg (tN Os b z) s a)) → (∀ i, i < o → μ 25 i = nI (dg (tN Os b z) s (12 + i))) → wp_Model_unfold_91 N post n (nI (s / str (tN Os b z) (12 + o))) (nI o) μ := by
    intro n
    induction n with
    | zero => intro o μ _ h; omega
    | succ n ih =>
      intro o μ ho hn hf h24 h25
      rw [wp_Model_unfold_91]
      refine pk_le 6 o (fun hq => ?_) (fun hq => ?_)
      · have : o = 6 := by omega
        subst this
        exact hp μ hf h24 h25
      · have ho2 : o < 6 := by omega
        rw [nI_clamp (by omega)]
        refine ⟨vp_in_nI ho2 (by decide), fun μ15 e15 => ⟨vp_in_nI ho2 (by decide), ?_⟩⟩
        have f15 : ∀ d, d ≠ 24 → d ≠ 25 → μ15 d = μ0 d := fun d d1 d2 => by rw [e15, s2_comp _ _ _ _ d2]; exact hf d d1 d2
        have hR15 : repR μ15 bk Os C b z := repR_same (fun d hd => f15 d (by omega) (by omega)) hR
        obtain ⟨k2, k3, k4, k5, k6, k7, k8⟩ := hR15.1.1.2.2 o ho2
        have hb3 := k8.2.2.2.2.1
        have hplo := hpl (12 + o) (by omega)
        rw [hR15.2.2.1 o ho2, hR15.1.1.2.1, six, nI_clamp (by omega), k5]
        refine pk_le (pl (tN Os b z) (12 + o)) 0 (fun hc => ?_) (fun hc => ?_)
        · have ht : tN Os b z (12 + o) = 0 := by
            unfold pl at hc
            split at hc
            · have := str_pos (tN Os b z) (12 + o); omega
            · omega
          unfold wp_Model_unfold_156
          rw [nI_1]
          have e1 : s / str (tN Os b z) (12 + o) = s / str (tN Os b z) (12 + (o + 1)) := by rw [← Nat.add_assoc, str_pl, if_neg (by omega)]
          rw [e1]
          refine ih (o + 1) μ15 (by omega) (by omega) f15 (by rw [e15, s2_comp _ _ _ _ (by decide)]; exact h24) (fun i hi => ?_)
          by_cases e : i = o
          · subst e; rw [e15, s2_same]; unfold dg; rw [ht, Nat.zero_add, Nat.mod_one]; rfl
          · rw [e15, s2_ne _ _ _ _ (Or.inr e)]; exact h25 i (by omega)
        · have ht : tN Os b z (12 + o) = Os o 3 := by
            unfold pl at hc
            split at hc
            · rename_i h0
              rw [tN_hi] at h0 ⊢
              split at h0
              · rename_i h1; rw [if_pos h1]
              · omega
            · omega
          have hne : ¬ nI (Os o 3) + 1 = 0 := by
            rw [nI_1, show (0 : Int32) = nI 0 from rfl, eqL (by omega) (by decide)]; omega
          refine ⟨vp_in_nI (by omega) (by decide), hne, vp_in_nI ho2 (by decide), fun μ21 e21 => ?_⟩
          have f21 : ∀ d, d ≠ 24 → d ≠ 25 → μ21 d = μ0 d := fun d d1 d2 => by rw [e21, s2_comp _ _ _ _ d2]; exact f15 d d1 d2
          have hR21 : repR μ21 bk Os C b z := repR_same (fun d hd => f21 d (by omega) (by omega)) hR
          have k5' := (hR21.1.1.2.2 o ho2).2.2.2.1
          rw [hR21.1.1.2.1, six, nI_clamp (by omega), k5']
          refine ⟨vp_in_nI (by omega) (by decide), hne, ?_⟩
          unfold wp_Model_unfold_156
          have hsd2 := hsd (12 + o)
          rw [nI_1, nI_1, pk_div (by omega) (by omega) (by omega), ← ht, div_str]
          refine ih (o + 1) μ21 (by omega) (by omega) f21 (by rw [e21, s2_comp _ _ _ _ (by decide), e15, s2_comp _ _ _ _ (by decide)]; exact h24) (fun i hi => ?_)
          by_cases e : i = o
          · subst e
            rw [e21, s2_same, nI_1, pk_rem (by omega) (by omega) (by omega), ← ht]; rfl
          · rw [e21, s2_ne _ _ _ _ (Or.inr e), e15, s2_ne _ _ _ _ (Or.inr e)]; exact h25 i (by omega)
  have loopA : ∀ (n a : Nat) (μ : St), a ≤ 12 → 12 - a < n → (∀ d, d ≠ 24 → d ≠ 25 → μ d = μ0 d) → (∀ i, i < a → μ 24 i = nI (dg (tN Os b z) s i)) → wp_Model_unfold_4 N post n (nI (s / str (tN Os b z) a)) (nI a) μ := by
    intro n
    induction n with
    | zero => intro a μ _ h; omega
    | succ n ih =>
      intro a μ ha hn hf h24
      rw [wp_Model_unfold_4]
      refine pk_le 12 a (fun hq => ?_) (fun hq => ?_)
      · have : a = 12 := by omega
        subst this
        exact loopO N 0 μ (by omega) (by omega) hf h24 (fun i hi => by omega)
      · have ha2 : a < 12 := by omega
        have hRμ : repR μ bk Os C b z := repR_same (fun d hd => hf d (by omega) (by omega)) hR
        have hpla := hpl a (by omega)
        rw [nI_clamp (by omega), hRμ.2.1 a ha2]
        refine ⟨vp_in_nI ha2 (by decide), pk_le (pl (tN Os b z) a) 0 (fun hc => ⟨vp_in_nI ha2 (by decide), fun μ5 e5 => ?_⟩) (fun hc => ?_)⟩
        · have ht : tN Os b z a = 0 := by
            unfold pl at hc
            split at hc
            · have := str_pos (tN Os b z) a; omega
            · omega
          unfold wp_Model_unfold_83
          rw [nI_1]
          have e1 : s / str (tN Os b z) a = s / str (tN Os b z) (a + 1) := by rw [str_pl, if_neg (by omega)]
          rw [e1]
          refine ih (a + 1) μ5 (by omega) (by omega) (fun d d1 d2 => by rw [e5, s2_comp _ _ _ _ d1]; exact hf d d1 d2) (fun i hi => ?_)
          by_cases e : i = a
          · subst e; rw [e5, s2_same]; unfold dg; rw [ht, Nat.zero_add, Nat.mod_one]; rfl
          · rw [e5, s2_ne _ _ _ _ (Or.inr e)]; exact h24 i (by omega)
        · have ht : tN Os b z a = cnt (nB b) (nI a) z := by
            refine tN_cnt ha2 ?_
            unfold pl at hc
            split at hc
            · assumption
            · omega
          have hcz := cnt_le (nB b) (nI a) z
          have inner : ∀ (m i : Nat), i ≤ z → z - i < m → wp_Model_unfold_25 N post (wp_Model_unfold_83 N post (wp_Model_unfold_4 N post n)) m (nI (s / str (tN Os b z) a)) (nI a) (nI (cnt (nB b) (nI a) i)) (nI i) μ := by
            intro m
            induction m with
            | zero => intro i _ h; omega
            | succ m ihm =>
              intro i hi hm
              rw [wp_Model_unfold_25, hRμ.1.2.1]
              refine pk_le z i (fun hq => ?_) (fun hq => ?_)
              · have : i = z := by omega
                subst this
                have hne : ¬ nI (cnt (nB b) (nI a) i) + 1 = 0 := by
                  rw [nI_1, show (0 : Int32) = nI 0 from rfl, eqL (by omega) (by decide)]; omega
                rw [nI_clamp (by omega)]
                refine ⟨hne, vp_in_nI ha2 (by decide), fun μ9 e9 => ⟨hne, ?_⟩⟩
                have hsd2 := hsd a
                unfold wp_Model_unfold_83
                rw [nI_1, nI_1, pk_div (by omega) (by omega) (by omega), ← ht, div_str]
                refine ih (a + 1) μ9 (by omega) (by omega) (fun d d1 d2 => by rw [e9, s2_comp _ _ _ _ d1]; exact hf d d1 d2) (fun j hj => ?_)
                by_cases e : j = a
                · subst e
                  rw [e9, s2_same, nI_1, pk_rem (by omega) (by omega) (by omega), ← ht]; rfl
                · rw [e9, s2_ne _ _ _ _ (Or.inr e)]; exact h24 j (by omega)
              · obtain ⟨x1, x2, x3⟩ := hRμ.1.2.2.2 i hq
                rw [nI_clamp (by omega), x1]
                have ec : cnt (nB b) (nI a) (i + 1) = cnt (nB b) (nI a) i + (if nI (b i) = nI a then 1 else 0) := rfl
                refine ⟨vp_in_nI (by omega) (by decide), fun hne => ?_, fun heq => ?_⟩
                · unfold wp_Model_unfold_48
                  rw [nI_1]
                  rw [if_neg hne] at ec
                  have ec2 : cnt (nB b) (nI a) (i + 1) = cnt (nB b) (nI a) i := ec
                  rw [← ec2]
                  exact ihm (i + 1) (by omega) (by omega)
                · unfold wp_Model_unfold_48
                  rw [nI_1, nI_1]
                  rw [if_pos heq] at ec
                  rw [← ec]
                  exact ihm (i + 1) (by omega) (by omega)
          exact inner N 0 (by omega) (by omega)
  have h0 : s / str (tN Os b z) 0 = s := Nat.div_one s
  have := loopA N 0 μ0 (by omega) (by omega) (fun _ _ _ => rfl) (fun i hi => by omega)
  rw [h0] at this
  exact this
