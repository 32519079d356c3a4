/-! the class: endUse -/
theorem upL_same (f : Nat → Int64) (k : Nat) (x : Int64) : vp_updL f k x k = x := by unfold vp_updL; rw [if_pos rfl]
theorem upL_ne (f : Nat → Int64) {k j : Nat} (x : Int64) (h : j ≠ k) : vp_updL f k x j = f j := by unfold vp_updL; rw [if_neg h]
theorem lm1_lt {n : Nat} (h : n < 2 ^ 63) : ¬ lN n ≤ (-1 : Int64) := by
  intro hq
  have h1 := Int64.le_iff_toInt_le.mp hq
  rw [pk_lT h, show ((-1 : Int64)).toInt = -1 by decide] at h1
  omega
theorem lm1_le {n : Nat} (h : n < 2 ^ 63) : (-1 : Int64) ≤ lN n := by
  rw [Int64.le_iff_toInt_le, pk_lT h, show ((-1 : Int64)).toInt = -1 by decide]
  omega
def grt : Option Nat → Nat
  | none => 0
  | some m => m
theorem pf_spreadRest (N : Nat) (hN : 11 ≤ N) {β : St} {z : Nat} (hz : z ≤ 10) (hz1 : 1 ≤ z) (hb1 : β 1 0 = nI z) {r : Nat → Nat} (hr : ∀ j, r j < 2 ^ 62) (π0 : St) (rest : Nat) (hrest : rest ≤ 10) (post : St × (Nat → Int64) → Prop) (fin : (Nat → Nat)) (hp : ∀ π ρ, (∀ d, d ≠ 2 → π d = π0 d) → (∀ j, j < z → π 2 j = nI (fin j)) → post (π, ρ)) :
    ∀ (n k : Nat) (op : Nat → Bool) (Y : Nat → Nat) (π : St) (ρ : Nat → Int64), k ≤ rest → rest - k < n → (∀ d, d ≠ 2 → π d = π0 d) → (∀ j, j < z → π 2 j = nI (Y j)) → (∀ j, j < z → ρ j = if op j then lN (r j) else -1) → rest - k ≤ cP op r z → (∀ j, j < z → op j = true → 0 < r j → 1 ≤ Y j) → spL z r (rest - k) op Y = fin → wp_Plan_spreadRest_2 N β post n (nI rest) (nI k) π ρ := by
  intro n
  induction n with
  | zero => intro k op Y π ρ _ h; omega
  | succ n ih =>
    intro k op Y π ρ hk hn hf h2 hρ hc hY hfin
    rw [wp_Plan_spreadRest_2]
    refine pk_le rest k (fun hq => ?_) (fun hq => pk_le 10 k (fun h => by omega) (fun _ => ?_))
    · have : rest - k = 0 := by omega
      rw [this] at hfin
      have hfin2 : Y = fin := hfin
      exact hp π ρ hf (fun j hj => by rw [h2 j hj, hfin2])
    · obtain ⟨q, hq2⟩ : ∃ q, rest - k = q + 1 := ⟨rest - k - 1, by omega⟩
      rw [hq2] at hc hfin
      obtain ⟨m, e, m1, m2, m3, m4⟩ := amx_get hc
      rw [spL_s e] at hfin
      have inner : ∀ (w i : Nat), 1 ≤ i → i ≤ z → z - i < w → wp_Plan_spreadRest_19 N β post (wp_Plan_spreadRest_2 N β post n) w (nI rest) (nI k) (nI (grt (amx op r i))) (nI i) π ρ := by
        intro w
        induction w with
        | zero => intro i _ _ h; omega
        | succ w ihw =>
          intro i hi1 hi hw
          have hg : grt (amx op r i) < z ∧ ((amx op r i = none ∧ ¬ op (grt (amx op r i)) = true) ∨ ∃ m, amx op r i = some m ∧ op m = true ∧ grt (amx op r i) = m) := by
            cases e2 : amx op r i with
            | none => exact ⟨by show 0 < z; omega, Or.inl ⟨rfl, amx_none i e2 0 (by omega)⟩⟩
            | some m2 =>
              obtain ⟨a1, a2, a3⟩ := amx_some i m2 e2
              exact ⟨by show m2 < z; omega, Or.inr ⟨m2, rfl, a2, rfl⟩⟩
          rw [wp_Plan_spreadRest_19, hb1]
          refine pk_le z i (fun hz2 => ?_) (fun hz2 => ?_)
          · have : i = z := by omega
            subst this
            rw [e]
            show vp_in (nI m) 10 ∧ _
            have hin : vp_in (nI m) 10 := vp_in_nI (by omega) (by decide)
            have h1m := hY m m1 m2 m3
            show vp_in (nI m) 10 ∧ vp_in (nI m) 10 ∧ ∀ π6, π6 = s2 π 2 (Int32.toNatClampNeg (nI m)) ((π 2 (Int32.toNatClampNeg (nI m))) - 1) → _
            rw [nI_clamp (by omega), h2 m m1]
            refine ⟨hin, hin, fun π6 e6 => ⟨hin, fun ρ8 e8 => ?_⟩⟩
            rw [nI_1]
            refine ih (k + 1) (clo op m) (dec1 Y m) π6 ρ8 (by omega) (by omega) (fun d hd => by rw [e6, s2_comp _ _ _ _ hd]; exact hf d hd) (fun j hj => ?_) (fun j hj => ?_) (by rw [show rest - (k + 1) = q by omega]; exact m4) (fun j hj ho hr2 => ?_) (by rw [show rest - (k + 1) = q by omega]; exact hfin)
            · unfold dec1
              by_cases ej : j = m
              · subst ej
                rw [if_pos rfl, e6, s2_same, show (1 : Int32) = nI 1 from rfl, pk_sub h1m]
              · rw [if_neg ej, e6, s2_ne _ _ _ _ (Or.inr ej)]; exact h2 j hj
            · rw [e8]
              by_cases ej : j = m
              · subst ej
                rw [show (grt (some j)) = j from rfl, nI_clamp (by omega), upL_same]
                have : ¬ clo op j j = true := fun h => (clo_of h).2 rfl
                rw [if_neg this]
              · rw [show (grt (some m)) = m from rfl, nI_clamp (by omega), upL_ne _ _ ej, hρ j hj]
                have : clo op m j = op j := by unfold clo; rw [decide_eq_true ej, Bool.and_true]
                rw [this]
            · obtain ⟨o1, o2⟩ := clo_of ho
              unfold dec1
              rw [if_neg o2]; exact hY j hj o1 hr2
          · obtain ⟨g1, g2⟩ := hg
            rw [nI_clamp (by omega), nI_clamp (by omega), hρ i hz2, hρ _ g1, lg_cmp_le]
            have keep : amx op r (i + 1) = amx op r i → wp_Plan_spreadRest_50 N β post (wp_Plan_spreadRest_19 N β post (wp_Plan_spreadRest_2 N β post n) w) (nI rest) (nI k) (nI (grt (amx op r i))) (nI i) π ρ := by
              intro he
              unfold wp_Plan_spreadRest_50
              rw [nI_1, ← he]
              exact ihw (i + 1) (by omega) (by omega) (by omega)
            have move : amx op r (i + 1) = some i → wp_Plan_spreadRest_50 N β post (wp_Plan_spreadRest_19 N β post (wp_Plan_spreadRest_2 N β post n) w) (nI rest) (nI k) (nI i) (nI i) π ρ := by
              intro he
              unfold wp_Plan_spreadRest_50
              have := ihw (i + 1) (by omega) (by omega) (by omega)
              rw [he] at this
              rw [nI_1]
              exact this
            refine ⟨vp_in_nI (by omega) (by decide), vp_in_nI (by omega) (by decide), ?_⟩
            rcases g2 with ⟨gn, go⟩ | ⟨m2, gs, go, gm⟩
            · rw [if_neg go]
              by_cases hoi : op i = true
              · rw [if_pos hoi]
                refine ⟨fun h => absurd h (lm1_lt (by have := hr i; omega)), fun _ => move ?_⟩
                rw [amx_s, gn]
                exact if_pos hoi
              · rw [if_neg hoi]
                refine ⟨fun _ => keep ?_, fun h => absurd (Int64.le_refl _) h⟩
                rw [amx_s, gn]
                exact if_neg hoi
            · rw [gm, if_pos go]
              rw [gm] at keep
              by_cases hoi : op i = true
              · rw [if_pos hoi, pk_lLE (by have := hr i; omega) (by have := hr m2; omega)]
                refine ⟨fun h => keep ?_, fun h => move ?_⟩
                · rw [amx_s, gs]
                  exact if_neg (fun q => by omega)
                · rw [amx_s, gs]
                  exact if_pos ⟨hoi, by omega⟩
              · rw [if_neg hoi]
                refine ⟨fun _ => keep ?_, fun h => absurd (lm1_le (by have := hr m2; omega)) h⟩
                rw [amx_s, gs]
                exact if_neg (fun q => hoi q.1)
      have h1 : grt (amx op r 1) = 0 := by
        rw [amx_s]
        show grt (if op 0 then some 0 else none) = 0
        split <;> rfl
      have := inner N 1 (by omega) (by omega) (by omega)
      rw [h1] at this
      exact this
theorem pf_endUse (N : Nat) (hN : 12 ≤ N) {β π : St} (ρ : Nat → Int64) {z n : Nat} (hz : z ≤ 10) (hb1 : β 1 0 = nI z) {mem : Nat → Bool} {Y : Nat → Nat} {sv sum : Nat} (hmem : ∀ j, j < z → (π 1 j = π 3 0 ↔ mem j = true)) (hY : ∀ j, j < z → π 2 j = nI (Y j)) (hYb : ∀ j, Y j ≤ 100000) (h3 : π 3 0 = nI n) (hsum : smm mem Y z = sum) (hs0 : 0 < sum) (hsb : sum ≤ 1000000) (hsv : sv ≤ sum) (post : St × (Nat → Int64) → Prop)
    (hp : ∀ π2 ρ2, (∀ d, d ≠ 2 → d ≠ 3 → π2 d = π d) → π2 3 0 = nI (n + 1) → (∀ j, j < z → π2 2 j = nI (spY z sv sum mem Y j)) → post (π2, ρ2)) : wp_Plan_endUse N π ρ β (nI sv) post := by
  obtain ⟨r1, r2⟩ := rst_ok (sv := sv) hs0 hsum
  have hz1 : 1 ≤ z := by
    rcases Nat.eq_zero_or_pos z with h | h
    · subst h
      have : (0 : Nat) = sum := hsum
      omega
    · exact h
  have hprod : ∀ j, sv * Y j < 2 ^ 62 := fun j => by
    have : sv * Y j ≤ 1000000 * 100000 := Nat.mul_le_mul (by omega) (hYb j)
    omega
  have hshr : ∀ j, shr1 sv sum (Y j) ≤ Y j := fun j => shr_le hs0 hsv
  have whole : ∀ (n2 i : Nat) (w : St) (ρ : Nat → Int64), i ≤ z → z - i < n2 → (∀ d, d ≠ 2 → w d = π d) → (∀ j, j < z → w 2 j = nI (if j < i then Y1 sv sum mem Y j else Y j)) → (∀ j, j < i → ρ j = if mem j then lN (rmd sv sum (Y j)) else -1) → wp_Plan_spreadWholeShares_6 N β (fun r4 u3 => wp_Plan_spreadRest N u3.1 u3.2 β (nI sv - r4) (fun u5 => (wp_Plan_endUse_66 N β post u5.1 u5.2))) n2 (nI sv) (nI sum) (nI (smm mem (fun j => shr1 sv sum (Y j)) i)) (nI i) w ρ := by
    intro n2
    induction n2 with
    | zero => intro i w ρ _ h; omega
    | succ n2 ih =>
      intro i w ρ hi hn hf h2 hρ
      rw [wp_Plan_spreadWholeShares_6, hb1]
      refine pk_le z i (fun hq => ?_) (fun hq => ?_)
      · have : i = z := by omega
        subst this
        show wp_Plan_spreadRest_2 N β _ N (nI sv - nI (smm mem (fun j => shr1 sv sum (Y j)) i)) 0 w ρ
        rw [pk_sub r1]
        have hcl := cP_le mem (fun j => rmd sv sum (Y j)) i
        have hrc : sv - smm mem (fun j => shr1 sv sum (Y j)) i = rstC i sv sum mem Y := rfl
        rw [hrc]
        refine pf_spreadRest N (by omega) hz hz1 hb1 (r := fun j => rmd sv sum (Y j)) (fun j => by have h1 : rmd sv sum (Y j) < sum := Nat.mod_lt _ hs0; show rmd sv sum (Y j) < 2 ^ 62; omega) w (rstC i sv sum mem Y) (by omega) _ (spY i sv sum mem Y) (fun π2 ρ2 g1 g2 => ?_) N 0 mem (Y1 sv sum mem Y) w ρ (Nat.zero_le _) (by omega) (fun _ _ => rfl) (fun j hj => by rw [h2 j hj, if_pos hj]) hρ r2 (Y1_pos hs0 hsv) rfl
        unfold wp_Plan_endUse_66
        intro π10 e10'
        have e10 : π10 = s2 π2 3 0 (π2 3 0 + 1) := e10'
        have g30 : π2 3 0 = nI n := by rw [g1 3 (by decide), hf 3 (by decide)]; exact h3
        refine hp π10 ρ2 (fun d d1 d2 => by rw [e10, s2_comp _ _ _ _ d2, g1 d d1, hf d d1]) (by rw [e10, s2_same, g30, nI_1]) (fun j hj => by rw [e10, s2_comp _ _ _ _ (by decide)]; exact g2 j hj)
      · have e2 : w 2 i = nI (Y i) := by rw [h2 i hq, if_neg (by omega)]
        have hi10 : vp_in (nI i) 10 := vp_in_nI (by omega) (by decide)
        have es : smm mem (fun j => shr1 sv sum (Y j)) (i + 1) = smm mem (fun j => shr1 sv sum (Y j)) i + (if mem i then shr1 sv sum (Y i) else 0) := rfl
        have hYi := hYb i
        rw [nI_clamp (by omega), hf 1 (by decide), hf 3 (by decide), e2, nI_l (by omega), nI_l (by omega), nI_l (by omega), lN_mul, pk_lDiv (by have := hprod i; omega) hs0 (by omega), lN_i]
        refine ⟨hi10, fun ρ3 e3 => ⟨hi10, fun hne => ?_, fun heq => ?_⟩⟩
        · have hm : ¬ mem i = true := fun h => hne ((hmem i hq).mpr h)
          rw [if_neg hm] at es
          unfold wp_Plan_spreadWholeShares_95
          have nx := ih (i + 1) w ρ3 (by omega) (by omega) hf (fun j hj => ?_) (fun j hj => ?_)
          · rw [es] at nx
            rw [nI_1]; exact nx
          · rw [h2 j hj]
            by_cases ej : j = i
            · subst ej
              have : Y1 sv sum mem Y j = Y j := if_neg hm
              rw [if_neg (by omega), if_pos (by omega), this]
            · by_cases hji : j < i
              · rw [if_pos hji, if_pos (by omega)]
              · rw [if_neg hji, if_neg (by omega)]
          · rw [e3]
            by_cases ej : j = i
            · subst ej; rw [upL_same, if_neg hm]
            · rw [upL_ne _ _ ej]; exact hρ j (by omega)
        · have hm : mem i = true := (hmem i hq).mp heq
          rw [if_pos hm] at es
          have hne : ¬ lN sum = 0 := by
            rw [show (0 : Int64) = lN 0 from rfl, pk_lEQ (by omega) (by decide)]; omega
          refine pk_le sum 0 (fun h => by omega) (fun _ => ⟨hi10, hne, hne, hi10, fun ρ11 e11 => ⟨hi10, hi10, fun π14 e14 => ?_⟩⟩)
          have e11' : ρ11 = vp_updL ρ3 i (lN (sv * Y i % sum)) := by
            rw [e11, ← pk_lDiv (by have := hprod i; omega) hs0 (by omega), pk_lRem (by have := hprod i; omega) hs0 (by omega)]
          unfold wp_Plan_spreadWholeShares_95
          have nx := ih (i + 1) π14 ρ11 (by omega) (by omega) (fun d hd => by rw [e14, s2_comp _ _ _ _ hd]; exact hf d hd) (fun j hj => ?_) (fun j hj => ?_)
          · rw [es] at nx
            rw [nI_1, nI_add]; exact nx
          · by_cases ej : j = i
            · subst ej
              have e4 : Y1 sv sum mem Y j = Y j - shr1 sv sum (Y j) := if_pos hm
              rw [e14, s2_same, if_pos (by omega), e4]
              exact pk_sub (hshr j)
            · rw [e14, s2_ne _ _ _ _ (Or.inr ej), h2 j hj]
              by_cases hji : j < i
              · rw [if_pos hji, if_pos (by omega)]
              · rw [if_neg hji, if_neg (by omega)]
          · rw [e11']
            by_cases ej : j = i
            · subst ej; rw [upL_same, if_pos hm]; rfl
            · rw [upL_ne _ _ ej, e3, upL_ne _ _ ej]; exact hρ j (by omega)
  have sums : ∀ (n2 i : Nat), i ≤ z → z - i < n2 → wp_Plan_endUse_5 N β post n2 (nI sv) (nI (smm mem Y i)) (nI i) π ρ := by
    intro n2
    induction n2 with
    | zero => intro i _ h; omega
    | succ n2 ih =>
      intro i hi hn
      rw [wp_Plan_endUse_5, hb1]
      refine pk_le z i (fun hq => ?_) (fun hq => ?_)
      · have : i = z := by omega
        subst this
        rw [hsum]
        refine pk_le sum 0 (fun h => by omega) (fun _ => ?_)
        exact whole N 0 π ρ (by omega) (by omega) (fun _ _ => rfl) (fun j hj => by rw [hY j hj, if_neg (by omega)]) (fun j hj => by omega)
      · have es : smm mem Y (i + 1) = smm mem Y i + (if mem i then Y i else 0) := rfl
        rw [nI_clamp (by omega), hY i hq]
        unfold wp_Plan_endUse_38
        rw [nI_1]
        refine ⟨vp_in_nI (by omega) (by decide), fun hne => ?_, fun heq => ⟨vp_in_nI (by omega) (by decide), ?_⟩⟩
        · have hm : ¬ mem i = true := fun h => hne ((hmem i hq).mpr h)
          rw [if_neg hm] at es
          have nx := ih (i + 1) (by omega) (by omega)
          rw [es] at nx; exact nx
        · have hm : mem i = true := (hmem i hq).mp heq
          rw [if_pos hm] at es
          have nx := ih (i + 1) (by omega) (by omega)
          rw [es] at nx
          rw [nI_add]; exact nx
  exact sums N 0 (by omega) (by omega)
