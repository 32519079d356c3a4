/-! the reference: numbers of the states -/
theorem cnt_congr {f g : Nat → Int32} {a : Int32} : ∀ z, (∀ i, i < z → f i = g i) → cnt f a z = cnt g a z := by
  intro z
  induction z with
  | zero => intro _; rfl
  | succ z ih =>
    intro h
    show cnt f a z + (if f z = a then 1 else 0) = cnt g a z + (if g z = a then 1 else 0)
    rw [ih (fun i hi => h i (by omega)), h z (by omega)]
theorem tB_congr {Os : Nat → Nat → Nat} {f g : Nat → Int32} {z : Nat} (h : ∀ i, i < z → f i = g i) : tB Os f z = tB Os g z := by
  funext d
  unfold tB tp
  rw [cnt_congr z h]
abbrev nB (b : Nat → Nat) : Nat → Int32 := fun i => nI (b i)
abbrev tN (Os : Nat → Nat → Nat) (b : Nat → Nat) (z : Nat) : Nat → Nat := tB Os (nB b) z
def pl (t : Nat → Nat) (d : Nat) : Nat := if 0 < t d then str t d else 0
/-- the units of the reference's problem -/
def repX (μ : St) (bk : Nat) (Os : Nat → Nat → Nat) (C b : Nat → Nat) (z : Nat) : Prop := repM μ bk Os ∧ μ 22 0 = nI z ∧ z ≤ 10 ∧ ∀ i, i < z → μ 20 i = nI (b i) ∧ b i < 12 ∧ μ 21 i = nI (C (b i))
def repR (μ : St) (bk : Nat) (Os : Nat → Nat → Nat) (C b : Nat → Nat) (z : Nat) : Prop := repX μ bk Os C b z ∧ (∀ a, a < 12 → μ 26 a = nI (pl (tN Os b z) a)) ∧ (∀ o, o < 6 → μ 27 o = nI (pl (tN Os b z) (12 + o))) ∧ μ 29 0 = nI (str (tN Os b z) 18) ∧ ∀ a, a < 12 → 0 < tN Os b z a → μ 28 a = nI (C a)
theorem repM_same {μ w : St} {bk : Nat} {Os : Nat → Nat → Nat} (h : ∀ d, (2 ≤ d ∧ d ≤ 7) ∨ d = 23 → w d = μ d) (hM : repM μ bk Os) : repM w bk Os := by
  obtain ⟨h1, h2, h3⟩ := hM
  refine ⟨h1, by rw [h 23 (Or.inr rfl)]; exact h2, fun i hi => ?_⟩
  obtain ⟨k1, k2, k3, k4, k5, k6, k7⟩ := h3 i hi
  unfold repK
  rw [h 2 (by omega), h 3 (by omega), h 4 (by omega), h 5 (by omega), h 6 (by omega), h 7 (by omega)]
  exact ⟨k1, k2, k3, k4, k5, k6, k7⟩
theorem repX_same {μ w : St} {bk : Nat} {Os : Nat → Nat → Nat} {C b : Nat → Nat} {z : Nat} (h : ∀ d, (2 ≤ d ∧ d ≤ 7) ∨ (20 ≤ d ∧ d ≤ 23) → w d = μ d) (hX : repX μ bk Os C b z) : repX w bk Os C b z := by
  obtain ⟨h1, h2, h3, h4⟩ := hX
  refine ⟨repM_same (fun d hd => h d (by omega)) h1, by rw [h 22 (by omega)]; exact h2, h3, fun i hi => ?_⟩
  rw [h 20 (by omega), h 21 (by omega)]
  exact h4 i hi
theorem repR_same {μ w : St} {bk : Nat} {Os : Nat → Nat → Nat} {C b : Nat → Nat} {z : Nat} (h : ∀ d, (2 ≤ d ∧ d ≤ 7) ∨ (20 ≤ d ∧ d ≤ 23) ∨ (26 ≤ d ∧ d ≤ 29) → w d = μ d) (hR : repR μ bk Os C b z) : repR w bk Os C b z := by
  obtain ⟨h1, h2, h3, h4, h5⟩ := hR
  refine ⟨repX_same (fun d hd => h d (by omega)) h1, ?_, ?_, ?_, ?_⟩
  · rw [h 26 (by omega)]; exact h2
  · rw [h 27 (by omega)]; exact h3
  · rw [h 29 (by omega)]; exact h4
  · rw [h 28 (by omega)]; exact h5
theorem tN_lo {Os : Nat → Nat → Nat} {b : Nat → Nat} {z a : Nat} (ha : a < 12) : tN Os b z a = if lkT Os a 6 then cnt (nB b) (nI a) z else 0 := by
  show (if z = 0 then 0 else tp Os (nB b) z a) = _
  by_cases h : z = 0
  · subst h
    rw [if_pos rfl]
    split <;> rfl
  · rw [if_neg h]
    unfold tp
    rw [if_pos ha]
theorem tN_hi {Os : Nat → Nat → Nat} {b : Nat → Nat} {z o : Nat} : tN Os b z (12 + o) = if 0 < z ∧ Os o 4 = 1 then Os o 3 else 0 := by
  show (if z = 0 then 0 else tp Os (nB b) z (12 + o)) = _
  by_cases h : z = 0
  · subst h
    rw [if_pos rfl, if_neg (fun q => absurd q.1 (Nat.lt_irrefl _))]
  · rw [if_neg h, tp_hi]
    by_cases h4 : Os o 4 = 1
    · rw [if_pos h4, if_pos ⟨by omega, h4⟩]
    · rw [if_neg h4, if_neg (fun q => h4 q.2)]
theorem str_pl (t : Nat → Nat) (d : Nat) : str t (d + 1) = if 0 < t d then str t d * (t d + 1) else str t d := by
  rw [str_s]
  split
  · rfl
  · rw [show t d = 0 by omega]; omega
theorem six (bk i : Nat) : (6 : Int32) * nI bk + nI i = nI (6 * bk + i) := by
  rw [show (6 : Int32) = nI 6 from rfl, pk_mul, nI_add]
theorem pf_numberAll (N : Nat) (hN : 13 ≤ N) {μ0 : St} {bk : Nat} {Os : Nat → Nat → Nat} {C b : Nat → Nat} {z : Nat} (hX : repX μ0 bk Os C b z) (post : St → Prop)
    (hp : ∀ u : St, (∀ d, d ≠ 24 → d ≠ 26 → d ≠ 27 → d ≠ 28 → d ≠ 29 → u d = μ0 d) → repR u bk Os C b z → post u) : wp_Model_numberAll N μ0 post := by
  have hz := hX.2.2.1
  have hbk := hX.1.1
  have loopO : ∀ (n o : Nat) (μ : St), o ≤ 6 → 6 - o < n → (∀ d, d ≠ 24 → d ≠ 26 → d ≠ 27 → d ≠ 28 → d ≠ 29 → μ d = μ0 d) → (∀ a, a < 12 → μ 26 a = nI (pl (tN Os b z) a)) → (∀ a, a < 12 → 0 < tN Os b z a → μ 28 a = nI (C a)) → (∀ i, i < o → μ 27 i = nI (pl (tN Os b z) (12 + i))) → μ 29 0 = nI (str (tN Os b z) (12 + o)) → wp_Model_numberAll_127 N post n (nI o) μ := by
    intro n
    induction n with
    | zero => intro o μ _ h; omega
    | succ n ih =>
      intro o μ ho hn hf h26 h28 h27 h29
      rw [wp_Model_numberAll_127]
      have hXμ : repX μ bk Os C b z := repX_same (fun d hd => hf d (by omega) (by omega) (by omega) (by omega) (by omega)) hX
      refine pk_le 6 o (fun hq => ?_) (fun hq => ?_)
      · have : o = 6 := by omega
        subst this
        exact hp μ hf ⟨hXμ, h26, h27, h29, h28⟩
      · have ho2 : o < 6 := by omega
        obtain ⟨k2, k3, k4, k5, k6, k7, k8⟩ := hXμ.1.2.2 o ho2
        have hb4 := k8.2.2.2.2.2.1
        have hb3 := k8.2.2.2.2.1
        rw [hXμ.1.2.1, six, nI_clamp (by omega), nI_clamp (by omega)]
        refine ⟨vp_in_nI ho2 (by decide), fun μ27 e27 => ?_⟩
        have f27 : ∀ d, d ≠ 27 → μ27 d = μ d := fun d hd => by rw [e27, s2_comp _ _ _ _ hd]
        rw [f27 22 (by decide), f27 6 (by decide), f27 5 (by decide), hXμ.2.1, k6, k5]
        have skip : tN Os b z (12 + o) = 0 → wp_Model_numberAll_202 N post (wp_Model_numberAll_127 N post n) (nI o) μ27 := by
          intro h0
          unfold wp_Model_numberAll_202
          rw [nI_1]
          refine ih (o + 1) μ27 (by omega) (by omega) (fun d d1 d2 d3 d4 d5 => by rw [f27 d d3]; exact hf d d1 d2 d3 d4 d5) (by rw [f27 26 (by decide)]; exact h26) (by rw [f27 28 (by decide)]; exact h28) (fun i hi => ?_) ?_
          · by_cases e : i = o
            · subst e; rw [e27, s2_same]; unfold pl; rw [if_neg (by omega)]; rfl
            · rw [e27, s2_ne _ _ _ _ (Or.inr e)]; exact h27 i (by omega)
          · rw [f27 29 (by decide), h29, ← Nat.add_assoc, str_pl, if_neg (by omega)]
        refine pk_le z 0 (fun hc => skip (by rw [tN_hi, if_neg (fun q => by omega)])) (fun hc => ⟨vp_in_nI (by omega) (by decide), pk_eq (Os o 4) 0 (fun hc2 => skip (by rw [tN_hi, if_neg (fun q => by omega)])) (fun hc2 => ⟨vp_in_nI (by omega) (by decide), pk_le (Os o 3) 0 (fun hc3 => skip (by rw [tN_hi]; split <;> omega)) (fun hc3 => ?_)⟩)⟩)
        have ht : tN Os b z (12 + o) = Os o 3 := by rw [tN_hi, if_pos ⟨hc, by omega⟩]
        refine ⟨vp_in_nI ho2 (by decide), fun μ34 e34 => ⟨vp_in_nI (by omega) (by decide), fun μ36 e36 => ?_⟩⟩
        have f36 : ∀ d, d ≠ 27 → d ≠ 29 → μ36 d = μ d := fun d d1 d2 => by rw [e36, s2_comp _ _ _ _ d2, e34, s2_comp _ _ _ _ d1, f27 d d1]
        unfold wp_Model_numberAll_202
        rw [nI_1]
        have e29 : μ27 29 0 = nI (str (tN Os b z) (12 + o)) := by rw [f27 29 (by decide)]; exact h29
        refine ih (o + 1) μ36 (by omega) (by omega) (fun d d1 d2 d3 d4 d5 => by rw [f36 d d3 d5]; exact hf d d1 d2 d3 d4 d5) (by rw [f36 26 (by decide) (by decide)]; exact h26) (by rw [f36 28 (by decide) (by decide)]; exact h28) (fun i hi => ?_) ?_
        · rw [e36, s2_comp _ _ _ _ (by decide)]
          by_cases e : i = o
          · subst e; rw [e34, s2_same, e29]; unfold pl; rw [if_pos (by omega)]
          · rw [e34, s2_ne _ _ _ _ (Or.inr e), e27, s2_ne _ _ _ _ (Or.inr e)]; exact h27 i (by omega)
        · rw [e36, s2_same, e34, s2_comp _ _ _ _ (by decide), s2_comp _ _ _ _ (by decide), e29, f27 5 (by decide), k5, nI_1, pk_mul, ← Nat.add_assoc, str_s, ht]
  have loopA : ∀ (n a : Nat) (μ : St), a ≤ 12 → 12 - a < n → (∀ d, d ≠ 24 → d ≠ 26 → d ≠ 27 → d ≠ 28 → d ≠ 29 → μ d = μ0 d) → (∀ i, i < a → μ 26 i = nI (pl (tN Os b z) i)) → (∀ i, i < a → 0 < tN Os b z i → μ 28 i = nI (C i)) → μ 29 0 = nI (str (tN Os b z) a) → wp_Model_numberAll_7 N post n (nI a) μ := by
    intro n
    induction n with
    | zero => intro a μ _ h; omega
    | succ n ih =>
      intro a μ ha hn hf h26 h28 h29
      rw [wp_Model_numberAll_7]
      refine pk_le 12 a (fun hq => ?_) (fun hq => ?_)
      · have : a = 12 := by omega
        subst this
        exact loopO N 0 μ (by omega) (by omega) hf h26 h28 (fun i hi => by omega) h29
      · have ha2 : a < 12 := by omega
        rw [nI_clamp (by omega)]
        refine ⟨vp_in_nI ha2 (by decide), fun μ4 e4 => ⟨vp_in_nI ha2 (by decide), fun μ6 e6 => ?_⟩⟩
        have inner : ∀ (m i : Nat) (w : St), i ≤ z → z - i < m → (∀ d, d ≠ 24 → d ≠ 26 → d ≠ 28 → w d = μ d) → (∀ j, j ≠ a → w 26 j = μ 26 j ∧ w 28 j = μ 28 j) → w 26 a = nI 0 → w 24 a = nI (cnt (nB b) (nI a) i) → (0 < cnt (nB b) (nI a) i → w 28 a = nI (C a)) → wp_Model_numberAll_29 N post (wp_Model_numberAll_7 N post n) m (nI a) (nI i) w := by
          intro m
          induction m with
          | zero => intro i w _ h; omega
          | succ m ihm =>
            intro i w hi hm wf wj w26 w24 w28
            have hXw : repX w bk Os C b z := repX_same (fun d hd => by rw [wf d (by omega) (by omega) (by omega)]; exact hf d (by omega) (by omega) (by omega) (by omega) (by omega)) hX
            rw [wp_Model_numberAll_29, hXw.2.1]
            have hcl := cnt_le (nB b) (nI a) i
            refine pk_le z i (fun hq => ?_) (fun hq => ?_)
            · have : i = z := by omega
              subst this
              rw [nI_clamp (by omega), w24]
              have skip : tN Os b i a = 0 → wp_Model_numberAll_119 N post (wp_Model_numberAll_7 N post n) (nI a) w := by
                intro h0
                unfold wp_Model_numberAll_119
                rw [nI_1]
                refine ih (a + 1) w (by omega) (by omega) (fun d d1 d2 d3 d4 d5 => by rw [wf d d1 d2 d4]; exact hf d d1 d2 d3 d4 d5) (fun j hj => ?_) (fun j hj h => ?_) ?_
                · by_cases e : j = a
                  · subst e; rw [w26]; unfold pl; rw [if_neg (by omega)]
                  · rw [(wj j e).1]; exact h26 j (by omega)
                · by_cases e : j = a
                  · subst e; omega
                  · rw [(wj j e).2]; exact h28 j (by omega) h
                · rw [wf 29 (by decide) (by decide) (by decide), h29, str_pl, if_neg (by omega)]
              refine ⟨vp_in_nI ha2 (by decide), pk_le (cnt (nB b) (nI a) i) 0 (fun hc => skip (by rw [tN_lo ha2]; split <;> omega)) (fun hc => ?_)⟩
              refine pf_MlooksAt N (by omega) hXw.1 ha2 _ ?_
              by_cases hk : lkT Os a 6 = true
              · rw [if_pos hk]
                refine ⟨fun h => absurd h (by decide), fun _ => ⟨vp_in_nI ha2 (by decide), fun μ14 e14 => ⟨vp_in_nI ha2 (by decide), fun μ16 e16 => ?_⟩⟩⟩
                have ht : tN Os b i a = cnt (nB b) (nI a) i := by rw [tN_lo ha2, if_pos hk]
                unfold wp_Model_numberAll_119
                rw [nI_1]
                have w29 : w 29 0 = nI (str (tN Os b i) a) := by rw [wf 29 (by decide) (by decide) (by decide)]; exact h29
                have f16 : ∀ d, d ≠ 26 → d ≠ 29 → μ16 d = w d := fun d d1 d2 => by rw [e16, s2_comp _ _ _ _ d2, e14, s2_comp _ _ _ _ d1]
                refine ih (a + 1) μ16 (by omega) (by omega) (fun d d1 d2 d3 d4 d5 => by rw [f16 d d2 d5, wf d d1 d2 d4]; exact hf d d1 d2 d3 d4 d5) (fun j hj => ?_) (fun j hj h => ?_) ?_
                · rw [e16, s2_comp _ _ _ _ (by decide), e14]
                  by_cases e : j = a
                  · subst e; rw [s2_same, w29]; unfold pl; rw [if_pos (by omega)]
                  · rw [s2_ne _ _ _ _ (Or.inr e), (wj j e).1]; exact h26 j (by omega)
                · rw [f16 28 (by decide) (by decide)]
                  by_cases e : j = a
                  · subst e; exact w28 hc
                  · rw [(wj j e).2]; exact h28 j (by omega) h
                · rw [e16, s2_same, e14, s2_comp _ _ _ _ (by decide), s2_comp _ _ _ _ (by decide), w29, w24, nI_1, pk_mul, str_s, ht]
              · rw [if_neg hk]
                exact ⟨fun _ => skip (by rw [tN_lo ha2, if_neg hk]), fun h => absurd rfl h⟩
            · obtain ⟨x1, x2, x3⟩ := hXw.2.2.2 i hq
              rw [nI_clamp (by omega), nI_clamp (by omega), x1]
              have ec : cnt (nB b) (nI a) (i + 1) = cnt (nB b) (nI a) i + (if nI (b i) = nI a then 1 else 0) := rfl
              refine ⟨vp_in_nI (by omega) (by decide), fun hne => ?_, fun heq => ⟨vp_in_nI ha2 (by decide), vp_in_nI ha2 (by decide), fun μ21 e21 => ⟨vp_in_nI (by omega) (by decide), vp_in_nI ha2 (by decide), fun μ24 e24 => ?_⟩⟩⟩
              · unfold wp_Model_numberAll_69
                rw [nI_1]
                rw [if_neg hne, Nat.add_zero] at ec
                exact ihm (i + 1) w (by omega) (by omega) wf wj w26 (by rw [ec]; exact w24) (by rw [ec]; exact w28)
              · unfold wp_Model_numberAll_69
                rw [nI_1]
                rw [if_pos heq] at ec
                have hba : b i = a := (eqL (by omega) (by omega)).mp heq
                refine ihm (i + 1) μ24 (by omega) (by omega) (fun d d1 d2 d3 => by rw [e24, s2_comp _ _ _ _ d3, e21, s2_comp _ _ _ _ d1]; exact wf d d1 d2 d3) (fun j hj => ⟨?_, ?_⟩) ?_ ?_ (fun _ => ?_)
                · rw [e24, s2_comp _ _ _ _ (by decide), e21, s2_comp _ _ _ _ (by decide)]; exact (wj j hj).1
                · rw [e24, s2_ne _ _ _ _ (Or.inr hj), e21, s2_comp _ _ _ _ (by decide)]; exact (wj j hj).2
                · rw [e24, s2_comp _ _ _ _ (by decide), e21, s2_comp _ _ _ _ (by decide)]; exact w26
                · rw [e24, s2_comp _ _ _ _ (by decide), e21, s2_same, w24, nI_1, ec]
                · rw [e24, s2_same, e21, s2_comp _ _ _ _ (by decide), x3, hba]
        refine inner N 0 μ6 (by omega) (by omega) (fun d d1 d2 d3 => by rw [e6, s2_comp _ _ _ _ d2, e4, s2_comp _ _ _ _ d1]) (fun j hj => ⟨?_, ?_⟩) ?_ ?_ (fun h => absurd h (Nat.lt_irrefl _))
        · rw [e6, s2_ne _ _ _ _ (Or.inr hj), e4, s2_comp _ _ _ _ (by decide)]
        · rw [e6, s2_comp _ _ _ _ (by decide), e4, s2_comp _ _ _ _ (by decide)]
        · rw [e6, s2_same]; rfl
        · rw [e6, s2_comp _ _ _ _ (by decide), e4, s2_same]; rfl
  unfold wp_Model_numberAll
  intro μ1 e1
  refine loopA N 0 μ1 (by omega) (by omega) (fun d _ _ _ _ d5 => by rw [e1, s2_comp _ _ _ _ d5]) (fun i hi => by omega) (fun i hi => by omega) ?_
  rw [e1, s2_same]; rfl
