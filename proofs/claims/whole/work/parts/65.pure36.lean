/-! the reference: spread -/
def bsI : Option Nat → Int32
  | none => -1
  | some m => nI m
theorem pf_spread (N : Nat) (hN : 12 ≤ N) {μ : St} {z : Nat} (hz : z ≤ 10) (h22 : μ 22 0 = nI z) {mem : Nat → Bool} {Y c : Nat → Nat} {sv sum : Nat} (h21 : ∀ j, j < z → μ 21 j = nI (c j)) (hcb : ∀ j, j < z → c j ≤ 100000) (hmem : ∀ j, j < z → (μ 35 j = μ 38 0 ↔ mem j = true)) (hY : ∀ j, j < z → μ 36 j = nI (Y j)) (hYb : ∀ j, Y j ≤ 100000) (hYc : ∀ j, j < z → mem j = true → Y j = c j) (hsum : smm mem Y z = sum) (hs0 : 0 < sum) (hsb : sum ≤ 1000000) (hsv : sv ≤ sum) (hpr : ∀ post : Int32 → Unit → Prop, post (nI sum) () → wp_Model_priceOfList N μ post) (post : St → Prop)
    (hp : ∀ u : St, (∀ d, d ≠ 36 → u d = μ d) → (∀ j, j < z → u 36 j = nI (spY z sv sum mem Y j)) → post u) : wp_Model_spread N μ (nI (sum - sv)) post := by
  obtain ⟨r1, r2⟩ := rst_ok (sv := sv) hs0 hsum
  have hprod : ∀ j, sv * Y j < 2 ^ 62 := fun j => by
    have : sv * Y j ≤ 1000000 * 100000 := Nat.mul_le_mul (by omega) (hYb j)
    omega
  have hshr : ∀ j, shr1 sv sum (Y j) ≤ Y j := fun j => shr_le hs0 hsv
  have hrm : ∀ j, rmd sv sum (Y j) < sum := fun j => Nat.mod_lt _ hs0
  have hne0 : ¬ lN sum = 0 := by
    rw [show (0 : Int64) = lN 0 from rfl, pk_lEQ (by omega) (by decide)]; omega
  have hcl := cP_le mem (fun j => rmd sv sum (Y j)) z
  have rests : ∀ (n k : Nat) (op : Nat → Bool) (X : Nat → Nat) (w : St), k ≤ rstC z sv sum mem Y → rstC z sv sum mem Y - k < n → (∀ d, d ≠ 36 → w d = μ d) → (∀ j, j < z → w 36 j = nI (X j)) → rstC z sv sum mem Y - k ≤ cP op (fun j => rmd sv sum (Y j)) z → (∀ j, op j = true → mem j = true) → (∀ j, j < z → mem j = true → (op j = true → X j + shr1 sv sum (Y j) = Y j) ∧ (¬ op j = true → X j + shr1 sv sum (Y j) + 1 = Y j)) → spL z (fun j => rmd sv sum (Y j)) (rstC z sv sum mem Y - k) op X = spY z sv sum mem Y → wp_Model_spread_88 N post n (nI sum) (nI sv) (nI (rstC z sv sum mem Y)) (nI k) w := by
    intro n
    induction n with
    | zero => intro k op X w _ h; omega
    | succ n ih =>
      intro k op X w hk hn hf h36 hc hop hX hfin
      rw [wp_Model_spread_88]
      refine pk_le (rstC z sv sum mem Y) k (fun hq => ?_) (fun hq => ?_)
      · have : rstC z sv sum mem Y - k = 0 := by omega
        rw [this] at hfin
        have hfin2 : X = spY z sv sum mem Y := hfin
        exact hp w hf (fun j hj => by rw [h36 j hj, hfin2])
      · obtain ⟨q, hq2⟩ : ∃ q, rstC z sv sum mem Y - k = q + 1 := ⟨rstC z sv sum mem Y - k - 1, by omega⟩
        rw [hq2] at hc hfin
        obtain ⟨m, e, m1, m2, m3, m4⟩ := amx_get hc
        rw [spL_s e] at hfin
        have inner : ∀ (v i : Nat), i ≤ z → z - i < v → wp_Model_spread_101 N post (wp_Model_spread_88 N post n) v (nI sum) (nI sv) (nI (rstC z sv sum mem Y)) (nI k) (bsI (amx op (fun j => rmd sv sum (Y j)) i)) (nI i) w := by
          intro v
          induction v with
          | zero => intro i _ h; omega
          | succ v ihv =>
            intro i hi hv
            rw [wp_Model_spread_101, hf 22 (by decide), h22]
            refine pk_le z i (fun hz2 => ?_) (fun hz2 => ?_)
            · have : i = z := by omega
              subst this
              rw [e]
              have hin : vp_in (nI m) 10 := vp_in_nI (by omega) (by decide)
              obtain ⟨x1, -⟩ := hX m m1 (hop m m2)
              have x1 := x1 m2
              have hlt := shr_lt hs0 hsv m3
              have h1m : 1 ≤ X m := by omega
              show vp_in (nI m) 10 ∧ vp_in (nI m) 10 ∧ ∀ μ15, μ15 = s2 w 36 (Int32.toNatClampNeg (nI m)) ((w 36 (Int32.toNatClampNeg (nI m))) - 1) → _
              rw [nI_clamp (by omega), h36 m m1]
              refine ⟨hin, hin, fun μ15 e15 => ?_⟩
              rw [nI_1]
              refine ih (k + 1) (clo op m) (dec1 X m) μ15 (by omega) (by omega) (fun d hd => by rw [e15, s2_comp _ _ _ _ hd]; exact hf d hd) (fun j hj => ?_) (by rw [show rstC i sv sum mem Y - (k + 1) = q by omega]; exact m4) (fun j ho => hop j (clo_of ho).1) (fun j hj hm => ⟨fun ho => ?_, fun ho => ?_⟩) (by rw [show rstC i sv sum mem Y - (k + 1) = q by omega]; exact hfin)
              · unfold dec1
                by_cases ej : j = m
                · subst ej
                  rw [if_pos rfl, e15, s2_same, show (1 : Int32) = nI 1 from rfl, pk_sub h1m]
                · rw [if_neg ej, e15, s2_ne _ _ _ _ (Or.inr ej)]; exact h36 j hj
              · obtain ⟨o1, o2⟩ := clo_of ho
                unfold dec1
                rw [if_neg o2]; exact (hX j hj hm).1 o1
              · unfold dec1
                by_cases ej : j = m
                · subst ej
                  rw [if_pos rfl]
                  omega
                · rw [if_neg ej]
                  refine (hX j hj hm).2 (fun ho2 => ho ?_)
                  unfold clo
                  rw [decide_eq_true ej, Bool.and_true]; exact ho2
            · have hi10 : vp_in (nI i) 10 := vp_in_nI (by omega) (by decide)
              have hci := hcb i hz2
              rw [nI_clamp (by omega), hf 35 (by decide), hf 38 (by decide), hf 21 (by decide), h21 i hz2, h36 i hz2]
              -- closed, or none of the use
              have keep : ¬ op i = true → wp_Model_spread_161 N post (wp_Model_spread_162 N post (wp_Model_spread_101 N post (wp_Model_spread_88 N post n) v)) (nI sum) (nI sv) (nI (rstC z sv sum mem Y)) (nI k) (bsI (amx op (fun j => rmd sv sum (Y j)) i)) (nI i) w := by
                intro ho
                unfold wp_Model_spread_161 wp_Model_spread_162 wp_Model_spread_210
                refine ⟨fun _ => ?_, fun h => absurd rfl h⟩
                have nx := ihv (i + 1) (by omega) (by omega)
                have ea : amx op (fun j => rmd sv sum (Y j)) (i + 1) = amx op (fun j => rmd sv sum (Y j)) i := by
                  rw [amx_s]
                  cases amx op (fun j => rmd sv sum (Y j)) i with
                  | none => exact if_neg ho
                  | some m2 => exact if_neg (fun q => ho q.1)
                rw [ea] at nx
                rw [nI_1]; exact nx
              refine ⟨hi10, fun hne => keep (fun ho => hne ((hmem i hz2).mpr (hop i ho))), fun heq => ⟨hi10, hi10, hi10, ?_⟩⟩
              have hm : mem i = true := (hmem i hz2).mp heq
              have eYc := hYc i hz2 hm
              rw [← eYc] at hci ⊢
              have hXY : X i ≤ Y i := by
                obtain ⟨a1, a2⟩ := hX i hz2 hm
                by_cases ho : op i = true
                · have := a1 ho; omega
                · have := a2 ho; omega
              have hsi := hshr i
              rw [nI_l (show sum < 2 ^ 31 by omega), nI_l (show sv < 2 ^ 31 by omega), nI_l (show Y i < 2 ^ 31 by omega), lN_mul, pk_lDiv (by have := hprod i; omega) hs0 (by omega), lN_i, pk_sub hXY]
              show ¬ lN sum = 0 ∧ (¬ nI (Y i - X i) = nI (shr1 sv sum (Y i)) → _) ∧ (nI (Y i - X i) = nI (shr1 sv sum (Y i)) → _)
              rw [eqL (by omega) (by omega)]
              refine ⟨hne0, fun hn2 => keep (fun ho => hn2 (by have := (hX i hz2 hm).1 ho; omega)), fun he2 => ?_⟩
              have ho : op i = true := by
                by_cases ho : op i = true
                · exact ho
                · have := (hX i hz2 hm).2 ho; omega
              unfold wp_Model_spread_162 wp_Model_spread_206 wp_Model_spread_210
              refine ⟨fun h => absurd h (by decide), fun _ => ?_⟩
              have nx := ihv (i + 1) (by omega) (by omega)
              rw [nI_1]
              cases ea : amx op (fun j => rmd sv sum (Y j)) i with
              | none =>
                have ea2 : amx op (fun j => rmd sv sum (Y j)) (i + 1) = some i := by rw [amx_s, ea]; exact if_pos ho
                rw [ea2] at nx
                refine ⟨fun _ => nx, fun h => absurd (show (-1 : Int32) < 0 by decide) h⟩
              | some m2 =>
                obtain ⟨b1, b2, b3⟩ := amx_some i m2 ea
                have hm2 : mem m2 = true := hop m2 b2
                have eY2 := hYc m2 (by omega) hm2
                have hm10 : vp_in (nI m2) 10 := vp_in_nI (by omega) (by decide)
                rw [show bsI (some m2) = nI m2 from rfl]
                refine ⟨fun h => absurd h (nI_pos (by omega)), fun _ => ?_⟩
                have hYm := hYb m2
                have hYi := hYb i
                show vp_in (nI i) 10 ∧ ¬ (nI sum).toInt64 = 0 ∧ vp_in (nI m2) 10 ∧ ¬ (nI sum).toInt64 = 0 ∧ _
                rw [nI_clamp (show m2 < 2 ^ 31 by omega), nI_clamp (show i < 2 ^ 31 by omega), hf 21 (by decide), h21 i hz2, h21 m2 (by omega), ← eY2, ← eYc, nI_l (show sum < 2 ^ 31 by omega), nI_l (show sv < 2 ^ 31 by omega), nI_l (show Y i < 2 ^ 31 by omega), nI_l (show Y m2 < 2 ^ 31 by omega), lN_mul, lN_mul, pk_lRem (by have := hprod i; omega) hs0 (by omega), pk_lRem (by have := hprod m2; omega) hs0 (by omega), lg_cmp_le, pk_lLE (by have := hrm i; show sv * Y i % sum < _; unfold rmd at this; omega) (by have := hrm m2; unfold rmd at this; omega)]
                refine ⟨hi10, hne0, hm10, hne0, fun h => ?_, fun h => ?_⟩
                · have ea2 : amx op (fun j => rmd sv sum (Y j)) (i + 1) = some m2 := by
                    rw [amx_s, ea]
                    exact if_neg (fun q => by have q2 := q.2; unfold rmd at q2; omega)
                  rw [ea2] at nx
                  exact nx
                · have ea2 : amx op (fun j => rmd sv sum (Y j)) (i + 1) = some i := by
                    rw [amx_s, ea]
                    exact if_pos ⟨ho, by unfold rmd; omega⟩
                  rw [ea2] at nx
                  exact nx
        exact inner N 0 (by omega) (by omega)
  have wholes : ∀ (n i : Nat) (w : St), i ≤ z → z - i < n → (∀ d, d ≠ 36 → w d = μ d) → (∀ j, j < z → w 36 j = nI (if j < i then Y1 sv sum mem Y j else Y j)) → wp_Model_spread_15 N post n (nI sum) (nI sv) (nI (sv - smm mem (fun j => shr1 sv sum (Y j)) i)) (nI i) w := by
    intro n
    induction n with
    | zero => intro i w _ h; omega
    | succ n ih =>
      intro i w hi hn hf h36
      rw [wp_Model_spread_15, hf 22 (by decide), h22]
      refine pk_le z i (fun hq => ?_) (fun hq => ?_)
      · have : i = z := by omega
        subst this
        refine rests N 0 mem (Y1 sv sum mem Y) w (Nat.zero_le _) (by omega) hf (fun j hj => by rw [h36 j hj, if_pos hj]) r2 (fun _ h => h) (fun j hj hm => ⟨fun _ => ?_, fun h => absurd hm h⟩) rfl
        have e1 : Y1 sv sum mem Y j = Y j - shr1 sv sum (Y j) := if_pos hm
        have := hshr j
        omega
      · have hi10 : vp_in (nI i) 10 := vp_in_nI (by omega) (by decide)
        have hci := hcb i hq
        have es : smm mem (fun j => shr1 sv sum (Y j)) (i + 1) = smm mem (fun j => shr1 sv sum (Y j)) i + (if mem i then shr1 sv sum (Y i) else 0) := rfl
        rw [nI_clamp (by omega), hf 35 (by decide), hf 38 (by decide), hf 21 (by decide), h21 i hq]
        unfold wp_Model_spread_79
        refine ⟨hi10, fun hne => ?_, fun heq => ⟨hi10, ?_⟩⟩
        · have hm : ¬ mem i = true := fun h => hne ((hmem i hq).mpr h)
          rw [if_neg hm] at es
          have nx := ih (i + 1) w (by omega) (by omega) hf (fun j hj => ?_)
          · rw [es] at nx
            rw [nI_1]; exact nx
          · rw [h36 j hj]
            by_cases ej : j = i
            · subst ej
              have : Y1 sv sum mem Y j = Y j := if_neg hm
              rw [if_neg (by omega), if_pos (by omega), this]
            · by_cases hji : j < i
              · rw [if_pos hji, if_pos (by omega)]
              · rw [if_neg hji, if_neg (by omega)]
        · have hm : mem i = true := (hmem i hq).mp heq
          have eYc := hYc i hq hm
          rw [if_pos hm] at es
          rw [← eYc] at hci ⊢
          have hsi := hshr i
          have hmono : smm mem (fun j => shr1 sv sum (Y j)) (i + 1) ≤ sv := by
            have mono : ∀ b, i + 1 ≤ b → smm mem (fun j => shr1 sv sum (Y j)) (i + 1) ≤ smm mem (fun j => shr1 sv sum (Y j)) b := by
              intro b
              induction b with
              | zero => intro h; omega
              | succ b ihb =>
                intro h
                by_cases eb : i + 1 = b + 1
                · rw [eb]; exact Nat.le_refl _
                · have := ihb (by omega)
                  show _ ≤ smm mem (fun j => shr1 sv sum (Y j)) b + _
                  omega
            have := mono z (by omega)
            omega
          rw [nI_l (show sum < 2 ^ 31 by omega), nI_l (show sv < 2 ^ 31 by omega), nI_l (show Y i < 2 ^ 31 by omega), lN_mul, pk_lDiv (by have := hprod i; omega) hs0 (by omega), lN_i]
          refine ⟨hne0, hi10, hi10, fun μ10 e10 => ?_⟩
          have nx := ih (i + 1) μ10 (by omega) (by omega) (fun d hd => by rw [e10, s2_comp _ _ _ _ hd]; exact hf d hd) (fun j hj => ?_)
          · rw [es] at nx
            have e5 : nI (sv - smm mem (fun j => shr1 sv sum (Y j)) i) - nI (sv * Y i / sum) = nI (sv - (smm mem (fun j => shr1 sv sum (Y j)) i + shr1 sv sum (Y i))) := by
              have e6 : sv * Y i / sum = shr1 sv sum (Y i) := rfl
              rw [e6, pk_sub (by omega), Nat.sub_sub]
            rw [e5, nI_1]; exact nx
          · by_cases ej : j = i
            · subst ej
              have e4 : Y1 sv sum mem Y j = Y j - shr1 sv sum (Y j) := if_pos hm
              rw [e10, s2_same, if_pos (by omega), e4]
              exact pk_sub (hshr j)
            · rw [e10, s2_ne _ _ _ _ (Or.inr ej), h36 j hj]
              by_cases hji : j < i
              · rw [if_pos hji, if_pos (by omega)]
              · rw [if_neg hji, if_neg (by omega)]
  unfold wp_Model_spread
  refine hpr _ ?_
  rw [pk_sub (by omega), show sum - (sum - sv) = sv by omega]
  exact wholes N 0 μ (by omega) (by omega) (fun _ _ => rfl) (fun j hj => by rw [hY j hj, if_neg (by omega)])
