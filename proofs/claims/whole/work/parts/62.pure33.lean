/-! the least total, on both sides -/
def bp (C b : Nat → Nat) : Nat → Nat
  | 0 => 0
  | n + 1 => bp C b n + C (b n)
def oth (C t b : Nat → Nat) : Nat → Nat
  | 0 => 0
  | n + 1 => oth C t b n + (if t (b n) = 0 then C (b n) else 0)
def fullS (t : Nat → Nat) : Nat := str t 18 - 1
theorem dg_full (t : Nat → Nat) {d : Nat} (hd : d < 18) : dg t (fullS t) d = t d := by
  have h := encN_full (t := t) (v := t) 18 (fun _ _ => rfl)
  have e : fullS t = encN t t 18 := by unfold fullS; omega
  rw [e, dg_enc 18 d hd (fun _ _ => Nat.le_refl _)]
theorem full_lt (t : Nat → Nat) : fullS t < str t 18 := by
  have := str_pos t 18
  unfold fullS; omega
/-- what is paid in all -/
def TL (Os : Nat → Nat → Nat) (C b : Nat → Nat) (z : Nat) : Nat := LT Os C (tN Os b z) (fullS (tN Os b z)) + oth C (tN Os b z) b z
def kN (k : Nat → Bool) (a : Nat) : Nat := if k a then 1 else 0
theorem bp_split {C b : Nat → Nat} (k : Nat → Bool) : ∀ z, (∀ i, i < z → b i < 12) → bp C b z = pr C (fun a => if k a then cnt (nB b) (nI a) z else 0) 12 + oth C (kN k) b z := by
  intro z
  induction z with
  | zero =>
    intro _
    show 0 = pr C _ 12 + 0
    rw [pr_zero C 12 (fun d _ => by split <;> rfl)]
  | succ z ih =>
    intro h
    have hb := h z (by omega)
    show bp C b z + C (b z) = _ + (oth C (kN k) b z + (if kN k (b z) = 0 then C (b z) else 0))
    rw [ih (fun i hi => h i (by omega))]
    have e : pr C (fun a => if k a then cnt (nB b) (nI a) (z + 1) else 0) 12 = pr C (fun a => (if k a then cnt (nB b) (nI a) z else 0) + (if k (b z) then unitV (b z) a else 0)) 12 := pr_congr 12 (fun d hd => by
      show (if k d then cnt (nB b) (nI d) z + (if nI (b z) = nI d then 1 else 0) else 0) = (if k d then cnt (nB b) (nI d) z else 0) + (if k (b z) then unitV (b z) d else 0)
      unfold unitV
      by_cases e : d = b z
      · subst e
        by_cases hk : k (b z) = true
        · rw [if_pos hk, if_pos hk, if_pos hk, if_pos rfl, if_pos rfl]
        · rw [if_neg hk, if_neg hk, if_neg hk]
      · have e2 : ¬ nI (b z) = nI d := fun h => e ((eqL (by omega) (by omega)).mp h).symm
        rw [if_neg e2, if_neg e, Nat.add_zero]
        by_cases hk : k (b z) = true
        · rw [if_pos hk, Nat.add_zero]
        · rw [if_neg hk, Nat.add_zero])
    rw [e, pr_add]
    by_cases hk : k (b z) = true
    · have e3 : pr C (fun a => if k (b z) then unitV (b z) a else 0) 12 = pr C (unitV (b z)) 12 := pr_congr 12 (fun d _ => if_pos hk)
      have ek : kN k (b z) = 1 := if_pos hk
      rw [e3, pr_unit, if_pos hb, if_neg (by omega)]; omega
    · have e3 : pr C (fun a => if k (b z) then unitV (b z) a else 0) 12 = 0 := pr_zero C 12 (fun d _ => if_neg hk)
      have ek : kN k (b z) = 0 := if_neg hk
      rw [e3, if_pos ek]; omega
theorem oth_congr {C t s b : Nat → Nat} : ∀ z, (∀ i, i < z → (t (b i) = 0 ↔ s (b i) = 0)) → oth C t b z = oth C s b z := by
  intro z
  induction z with
  | zero => intro _; rfl
  | succ z ih =>
    intro h
    show oth C t b z + (if t (b z) = 0 then C (b z) else 0) = oth C s b z + (if s (b z) = 0 then C (b z) else 0)
    rw [ih (fun i hi => h i (by omega))]
    have := h z (by omega)
    by_cases h0 : t (b z) = 0
    · rw [if_pos h0, if_pos (this.mp h0)]
    · rw [if_neg h0, if_neg (fun q => h0 (this.mpr q))]
theorem cnt_in {f : Nat → Int32} {a : Int32} {i : Nat} : ∀ z, i < z → f i = a → 0 < cnt f a z := by
  intro z
  induction z with
  | zero => intro h; omega
  | succ z ih =>
    intro h e
    unfold cnt
    by_cases hz : i = z
    · subst hz; rw [if_pos e]; omega
    · have := ih (by omega) e; omega
theorem bp_tN {Os : Nat → Nat → Nat} {C b : Nat → Nat} {z : Nat} (hb : ∀ i, i < z → b i < 12) : bp C b z = pr C (tN Os b z) 12 + oth C (tN Os b z) b z := by
  rw [bp_split (fun a => lkT Os a 6) z hb]
  congr 1
  · exact pr_congr 12 (fun d hd => (tN_lo hd).symm)
  · refine oth_congr z (fun i hi => ?_)
    have hbi := hb i hi
    rw [tN_lo hbi]
    unfold kN
    by_cases hk : lkT Os (b i) 6 = true
    · rw [if_pos hk, if_pos hk]
      have := cnt_in (f := nB b) (a := nI (b i)) z hi rfl
      omega
    · rw [if_neg hk, if_neg hk]
theorem TL_eq {Os : Nat → Nat → Nat} {C b : Nat → Nat} {z : Nat} (hO : ∀ i, i < 6 → okO (Os i)) (hb : ∀ i, i < z → b i < 12) : SV Os C (tN Os b z) (fullS (tN Os b z)) + TL Os C b z = bp C b z := by
  have h1 := SV_LT (C := C) hO (full_lt (tN Os b z))
  rw [pr_congr (f := tN Os b z) 12 (fun d hd => dg_full _ (by omega))] at h1
  have h2 := bp_tN (Os := Os) (C := C) hb
  unfold TL
  omega
theorem bp_le {C b : Nat → Nat} (hC : ∀ a, a < 12 → C a ≤ 100000) : ∀ z, (∀ i, i < z → b i < 12) → bp C b z ≤ z * 100000 := by
  intro z
  induction z with
  | zero => intro _; exact Nat.zero_le _
  | succ z ih =>
    intro h
    have h1 := ih (fun i hi => h i (by omega))
    have h2 := hC (b z) (h z (by omega))
    show bp C b z + C (b z) ≤ _
    omega
theorem oth_le (C t b : Nat → Nat) : ∀ z, oth C t b z ≤ bp C b z := by
  intro z
  induction z with
  | zero => exact Nat.le_refl _
  | succ z ih =>
    show oth C t b z + _ ≤ bp C b z + C (b z)
    split <;> omega
theorem pf_others (N : Nat) (hN : 11 ≤ N) {μ : St} {bk : Nat} {Os : Nat → Nat → Nat} {C b : Nat → Nat} {z : Nat} (hR : repR μ bk Os C b z) (h3000 : str (tN Os b z) 18 ≤ 3000) (post : Int32 → Unit → Prop) (hp : post (nI (oth C (tN Os b z) b z)) ()) : wp_Model_others N μ post := by
  have hz := hR.1.2.2.1
  have loop : ∀ (n i : Nat), i ≤ z → z - i < n → wp_Model_others_4 N μ post n (nI (oth C (tN Os b z) b i)) (nI i) := by
    intro n
    induction n with
    | zero => intro i _ h; omega
    | succ n ih =>
      intro i hi hn
      rw [wp_Model_others_4, hR.1.2.1]
      refine pk_le z i (fun hq => ?_) (fun hq => ?_)
      · have : i = z := by omega
        subst this; exact hp
      · obtain ⟨x1, x2, x3⟩ := hR.1.2.2.2 i hq
        have nx := ih (i + 1) (by omega) (by omega)
        have eo : oth C (tN Os b z) b (i + 1) = oth C (tN Os b z) b i + (if tN Os b z (b i) = 0 then C (b i) else 0) := rfl
        rw [eo] at nx
        rw [nI_clamp (show i < 2 ^ 31 by omega), x1, nI_clamp (by omega), hR.2.1 (b i) x2, x3]
        unfold wp_Model_others_35
        rw [nI_1]
        have hpl : pl (tN Os b z) (b i) = 0 ↔ tN Os b z (b i) = 0 := by
          unfold pl
          have := str_pos (tN Os b z) (b i)
          split <;> omega
        have hpb : pl (tN Os b z) (b i) ≤ 3000 := by
          unfold pl
          split
          · have h1 : str (tN Os b z) (b i) ≤ str (tN Os b z) 18 := by
              obtain ⟨K, e2⟩ := str_mul (tN Os b z) (b i) 18 (by omega)
              have hp := str_pos (tN Os b z) 18
              have h1 : 1 ≤ (tN Os b z (b i) + 1) * K := by
                rcases Nat.eq_zero_or_pos ((tN Os b z (b i) + 1) * K) with h | h
                · rw [h, Nat.mul_zero] at e2; omega
                · exact h
              have h2 : str (tN Os b z) (b i) * 1 ≤ str (tN Os b z) (b i) * ((tN Os b z (b i) + 1) * K) := Nat.mul_le_mul_left _ h1
              omega
            omega
          · omega
        refine ⟨vp_in_nI (by omega) (by decide), vp_in_nI x2 (by decide), fun hne => ?_, fun heq => ⟨vp_in_nI (by omega) (by decide), ?_⟩⟩
        · have h0 : ¬ tN Os b z (b i) = 0 := fun h => hne (by rw [hpl.mpr h]; rfl)
          rw [if_neg h0] at nx
          exact nx
        · have h0 : tN Os b z (b i) = 0 := hpl.mp ((eqL (by omega) (by decide)).mp heq)
          rw [if_pos h0] at nx
          rw [nI_add]; exact nx
  exact loop N 0 (by omega) (by omega)
theorem pf_Mleast (N : Nat) (hN : 100001 ≤ N) {μ0 : St} {bk : Nat} {Os : Nat → Nat → Nat} {C b : Nat → Nat} {z : Nat} (hX : repX μ0 bk Os C b z) (hC : ∀ a, a < 12 → C a ≤ 100000) (h3000 : str (tN Os b z) 18 ≤ 3000) (post : Int32 → St → Prop)
    (hp : ∀ u : St, (∀ d, d < 24 ∨ 33 < d → u d = μ0 d) → post (nI (TL Os C b z)) u) : wp_Model_leastTotal N μ0 post := by
  unfold wp_Model_leastTotal
  refine pf_reckonAll N hN hX hC h3000 _ (fun u fu hR h30 => ?_)
  have hf := full_lt (tN Os b z)
  have e : u 29 0 - 1 = nI (fullS (tN Os b z)) := by
    rw [hR.2.2.2.1, show (1 : Int32) = nI 1 from rfl, pk_sub (str_pos _ _)]; rfl
  rw [e, nI_clamp (by omega), h30 _ hf]
  refine ⟨vp_in_nI (by omega) (by decide), pf_others N (by omega) hR h3000 _ ?_⟩
  rw [nI_add]
  exact hp u fu
theorem pf_priceIn (N : Nat) (hN : 11 ≤ N) {β τ : St} {C b : Nat → Nat} {z : Nat} (hz : z ≤ 10) (hb1 : β 1 0 = nI z) (hb : ∀ i, i < z → β 0 i = nI (b i) ∧ b i < 12) (hτ : ∀ a, a < 12 → τ 0 a = nI (C a)) (post : Int32 → Unit → Prop) (hp : post (nI (bp C b z)) ()) : wp_Basket_priceIn N β τ post := by
  have loop : ∀ (n i : Nat), i ≤ z → z - i < n → wp_Basket_priceIn_4 N β τ post n (nI (bp C b i)) (nI i) := by
    intro n
    induction n with
    | zero => intro i _ h; omega
    | succ n ih =>
      intro i hi hn
      rw [wp_Basket_priceIn_4, hb1]
      refine pk_le z i (fun hq => ?_) (fun hq => ?_)
      · have : i = z := by omega
        subst this; exact hp
      · obtain ⟨x1, x2⟩ := hb i hq
        rw [nI_clamp (show i < 2 ^ 31 by omega), x1, nI_clamp (by omega), hτ _ x2, nI_add, nI_1]
        exact ⟨vp_in_nI (by omega) (by decide), vp_in_nI x2 (by decide), ih (i + 1) (by omega) (by omega)⟩
  exact loop N 0 (by omega) (by omega)
theorem tB_N {Os : Nat → Nat → Nat} {β : St} {b : Nat → Nat} {z : Nat} (hb : ∀ i, i < z → β 0 i = nI (b i) ∧ b i < 12) : tB Os (β 0) z = tN Os b z := tB_congr (fun i hi => (hb i hi).1)
theorem room_N {Os : Nat → Nat → Nat} {β : St} {b : Nat → Nat} {z : Nat} (hb : ∀ i, i < z → β 0 i = nI (b i) ∧ b i < 12) (h : str (tN Os b z) 18 ≤ 3000) : z = 0 ∨ str (tp Os (β 0) z) 18 ≤ 3000 := by
  by_cases e : z = 0
  · exact Or.inl e
  · right
    have e1 : tB Os (β 0) z = tp Os (β 0) z := by funext d; exact if_neg e
    rw [← e1, tB_N hb]; exact h
theorem pf_Pleast (N : Nat) (hN : 100001 ≤ N) {κ υ τ β : St} {ω : Nat → St} {Os : Nat → Nat → Nat} {C b : Nat → Nat} (hW : repW ω Os) (hτ : ∀ a, a < 12 → τ 0 a = nI (C a)) (hC : ∀ a, a < 12 → C a ≤ 100000) {z : Nat} (hz : z ≤ 10) (hb1 : β 1 0 = nI z) (hb : ∀ i, i < z → β 0 i = nI (b i) ∧ b i < 12) (h3000 : str (tN Os b z) 18 ≤ 3000) {st : Nat} (hS : repS υ st) (hst : st + 6 < 2 ^ 30) (post : Int32 → St × St → Prop)
    (hp : ∀ κ2 υ2 st2, st2 ≤ st + 6 → repS υ2 st2 → post (nI (TL Os C b z)) (κ2, υ2)) : wp_Planner_leastTotal N κ υ τ ω β post := by
  have hO : ∀ i, i < 6 → okO (Os i) := fun i hi => (hW i hi).2.2
  unfold wp_Planner_leastTotal
  refine pf_solve N (by omega) hW hτ hC hz hb1 (room_N hb h3000) hS hst _ (fun κ2 υ2 st2 hst2 hS2 hv => ?_)
  rw [tB_N hb] at hv
  obtain ⟨v0, v3, v5, -, -⟩ := hv
  have hf := full_lt (tN Os b z)
  have e5 : κ2 5 0 = nI (fullS (tN Os b z)) := v5
  refine pf_priceIn N (by omega) hz hb1 hb hτ _ ?_
  show wp_Planner_savedAt N κ2 υ2 (κ2 5 0) _
  rw [e5]
  refine pf_savedAt N υ2 (by omega) _ ?_
  have hT := TL_eq (C := C) hO (fun i hi => (hb i hi).2)
  rw [v3 _ hf]
  dsimp only
  rw [pk_sub (by omega), show bp C b z - SV Os C (tN Os b z) (fullS (tN Os b z)) = TL Os C b z by omega]
  exact hp κ2 υ2 st2 hst2 hS2
