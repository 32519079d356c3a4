/-! a tariff's offers; the room -/
def repW (ω : Nat → St) (Os : Nat → Nat → Nat) : Prop := ∀ i, i < 6 → repO (ω i) (Os i)
def lkT (Os : Nat → Nat → Nat) (a : Nat) : Nat → Bool
  | 0 => false
  | n + 1 => lkT Os a n || (decide (Os n 4 = 1) && lk (Os n) a (uLen (Os n)))
theorem lkT_mono {Os : Nat → Nat → Nat} {a i : Nat} : ∀ j, i ≤ j → lkT Os a i = true → lkT Os a j = true := by
  intro j hij hi
  induction j with
  | zero =>
    have : i = 0 := by omega
    subst this; exact hi
  | succ j ih =>
    by_cases hj : i = j + 1
    · subst hj; exact hi
    · unfold lkT; rw [ih (by omega)]; rfl
theorem pf_TlooksAt_l (N : Nat) (hN : 5 ≤ N) (τ : St) {ω : Nat → St} {Os : Nat → Nat → Nat} (h : repW ω Os) {a : Nat} (ha : a < 12) (post : Int32 → Unit → Prop) (hp : post (nI (if lkT Os a 6 then 1 else 0)) ()) : ∀ (n i : Nat), i ≤ 6 → 6 - i < n → lkT Os a i = false → wp_Tariff_looksAt_2 N τ ω post n (nI a) (nI i) := by
  intro n
  induction n with
  | zero => intro i _ h2; omega
  | succ n ih =>
    intro i hi hn hl
    rw [wp_Tariff_looksAt_2]
    refine ⟨fun hc => ?_, fun hc => ?_⟩
    · rw [show (6 : Int32) = nI 6 from rfl, leL (by decide) (by omega)] at hc
      have : i = 6 := by omega
      subst this
      rw [hl] at hp; exact hp
    · rw [show (6 : Int32) = nI 6 from rfl, leL (by decide) (by omega)] at hc
      have hO := h i (by omega)
      have h4 := hO.2.2.2.2.2.2.2.1
      rw [nI_clamp (by omega), hO.1 4 (by omega), show (0 : Int32) = nI 0 from rfl, eqL (by omega) (by omega)]
      have next : lkT Os a (i + 1) = false → wp_Tariff_looksAt_35 N τ ω post (wp_Tariff_looksAt_2 N τ ω post n) (nI a) (nI i) := by
        intro hf
        unfold wp_Tariff_looksAt_35
        rw [nI_1]
        exact ih (i + 1) (by omega) (by omega) hf
      refine ⟨vp_in_nI (by omega) (by decide), fun hz => ?_, fun hz => ⟨vp_in_nI (by omega) (by decide), ?_⟩⟩
      · refine next ?_
        unfold lkT
        rw [hl, hz]; rfl
      · refine pf_OlooksAt N hN hO ha _ ?_
        have h41 : Os i 4 = 1 := by omega
        by_cases hk : lk (Os i) a (uLen (Os i)) = true
        · rw [if_pos hk]
          refine ⟨fun hq => absurd hq (by decide), fun _ => ?_⟩
          have h1 : lkT Os a (i + 1) = true := by unfold lkT; rw [hk, h41]; simp
          rw [lkT_mono 6 (by omega) h1] at hp
          exact hp
        · rw [if_neg hk]
          refine ⟨fun _ => next ?_, fun hq => absurd rfl hq⟩
          unfold lkT
          rw [hl]
          simp at hk
          rw [hk]; simp
theorem pf_TlooksAt (N : Nat) (hN : 7 ≤ N) (τ : St) {ω : Nat → St} {Os : Nat → Nat → Nat} (h : repW ω Os) {a : Nat} (ha : a < 12) (post : Int32 → Unit → Prop) (hp : post (nI (if lkT Os a 6 then 1 else 0)) ()) : wp_Tariff_looksAt N τ ω (nI a) post :=
  pf_TlooksAt_l N (by omega) τ h ha post hp N 0 (by omega) (by omega) rfl
/-- the digits' tops: units of articles that are looked at, uses of offers with a most -/
def tp (Os : Nat → Nat → Nat) (f : Nat → Int32) (z d : Nat) : Nat := if d < 12 then (if lkT Os d 6 then cnt f (nI d) z else 0) else (if Os (d - 12) 4 = 1 then Os (d - 12) 3 else 0)
def str (t : Nat → Nat) : Nat → Nat
  | 0 => 1
  | n + 1 => str t n * (t n + 1)
theorem pf_room90 (N : Nat) (υ τ : St) (ω : Nat → St) (β : St) (t : Nat → Nat) (κ0 : St) (post : Int32 → St → Prop) (hp : ∀ κ : St, (∀ d, d < 18 → κ 0 d = nI (t d)) → (∀ d, d < 18 → κ 1 d = nI (str t d)) → (∀ a, 2 ≤ a → κ a = κ0 a) → post (nI (str t 18)) κ) :
    ∀ (n i : Nat) (κ : St), i ≤ 18 → 18 - i < n → (∀ d, d < 18 → κ 0 d = nI (t d)) → (∀ d, d < i → κ 1 d = nI (str t d)) → (∀ a, 2 ≤ a → κ a = κ0 a) → wp_Planner_roomFor_90 N υ τ ω β post n (nI (str t i)) (nI i) κ := by
  intro n
  induction n with
  | zero => intro i κ _ h2; omega
  | succ n ih =>
    intro i κ hi hn h0 h1 h2
    rw [wp_Planner_roomFor_90]
    refine ⟨fun hc => ?_, fun hc => ⟨?_, fun κ1 e1 => ⟨?_, ?_⟩⟩⟩
    · rw [show (18 : Int32) = nI 18 from rfl, leL (by decide) (by omega)] at hc
      have : i = 18 := by omega
      subst this
      exact hp κ h0 h1 h2
    all_goals rw [show (18 : Int32) = nI 18 from rfl, leL (by decide) (by omega)] at hc
    · exact vp_in_nI (by omega) (by decide)
    · exact vp_in_nI (by omega) (by decide)
    · rw [nI_clamp (by omega)] at e1 ⊢
      have e0 : κ1 0 i = nI (t i) := by rw [e1, s2_ne _ _ _ _ (Or.inl (by omega))]; exact h0 i (by omega)
      rw [e0, nI_1, nI_1, pk_mul]
      refine ih (i + 1) κ1 (by omega) (by omega) (fun d hd => ?_) (fun d hd => ?_) (fun a ha => ?_)
      · rw [e1, s2_ne _ _ _ _ (Or.inl (by omega))]; exact h0 d hd
      · by_cases hdi : d = i
        · subst hdi; rw [e1]; exact s2_same ..
        · rw [e1, s2_ne _ _ _ _ (Or.inr hdi)]; exact h1 d (by omega)
      · rw [e1, s2_comp _ _ _ _ (by omega)]; exact h2 a ha
theorem pf_room39 (N : Nat) (hN : 19 ≤ N) (υ τ : St) {ω : Nat → St} {Os : Nat → Nat → Nat} (h : repW ω Os) (β : St) (t : Nat → Nat) (ht : ∀ d, d < 6 → t (12 + d) = if Os d 4 = 1 then Os d 3 else 0) (κ0 : St) (post : Int32 → St → Prop) (hp : ∀ κ : St, (∀ d, d < 18 → κ 0 d = nI (t d)) → (∀ d, d < 18 → κ 1 d = nI (str t d)) → (∀ a, 2 ≤ a → κ a = κ0 a) → post (nI (str t 18)) κ) :
    ∀ (n i : Nat) (κ : St), i ≤ 6 → 6 - i < n → (∀ d, d < 12 + i → κ 0 d = nI (t d)) → (∀ a, 2 ≤ a → κ a = κ0 a) → wp_Planner_roomFor_39 N υ τ ω β post n (nI i) κ := by
  intro n
  induction n with
  | zero => intro i κ _ h2; omega
  | succ n ih =>
    intro i κ hi hn h0 h2
    rw [wp_Planner_roomFor_39]
    refine ⟨fun hc => ?_, fun hc => ?_⟩
    · rw [show (6 : Int32) = nI 6 from rfl, leL (by decide) (by omega)] at hc
      have : i = 6 := by omega
      subst this
      exact pf_room90 N υ τ ω β t κ0 post hp N 0 κ (by omega) (by omega) h0 (fun d hd => by omega) h2
    · rw [show (6 : Int32) = nI 6 from rfl, leL (by decide) (by omega)] at hc
      have hO := h i (by omega)
      have h4 := hO.2.2.2.2.2.2.2.1
      have hm := hO.2.2.2.2.2.2.1
      rw [nI_clamp (by omega), hO.1 4 (by omega), hO.1 3 (by omega), show (0 : Int32) = nI 0 from rfl, eqL (by omega) (by omega), show (12 : Int32) = nI 12 from rfl, nI_add]
      have step : ∀ v, t (12 + i) = v → wp_Planner_roomFor_78 N υ τ ω β post (wp_Planner_roomFor_39 N υ τ ω β post n) (nI i) (nI v) (nI (12 + i)) κ := by
        intro v hv
        unfold wp_Planner_roomFor_78
        refine ⟨vp_in_nI (by omega) (by decide), fun κ1 e1 => ?_⟩
        rw [nI_clamp (by omega)] at e1
        rw [nI_1]
        refine ih (i + 1) κ1 (by omega) (by omega) (fun d hd => ?_) (fun a ha => ?_)
        · by_cases hdi : d = 12 + i
          · subst hdi; rw [e1, s2_same, hv]
          · rw [e1, s2_ne _ _ _ _ (Or.inr hdi)]; exact h0 d (by omega)
        · rw [e1, s2_comp _ _ _ _ (by omega)]; exact h2 a ha
      refine ⟨vp_in_nI (by omega) (by decide), fun hz => step 0 ?_, fun hz => step (Os i 3) ?_⟩
      · rw [ht i (by omega), if_neg (by omega)]
      · rw [ht i (by omega), if_pos (by omega)]
theorem pf_roomFor (N : Nat) (hN : 19 ≤ N) (κ0 υ τ : St) {ω : Nat → St} {Os : Nat → Nat → Nat} (h : repW ω Os) (β : St) (z : Nat) (hz : z ≤ 10) (hb : β 1 0 = nI z) (post : Int32 → St → Prop)
    (hp : ∀ κ : St, (∀ d, d < 18 → κ 0 d = nI (tp Os (β 0) z d)) → (∀ d, d < 18 → κ 1 d = nI (str (tp Os (β 0) z) d)) → (∀ a, 2 ≤ a → κ a = κ0 a) → post (nI (str (tp Os (β 0) z) 18)) κ) : wp_Planner_roomFor N κ0 υ τ ω β post := by
  have main : ∀ (n i : Nat) (κ : St), i ≤ 12 → 12 - i < n → (∀ d, d < i → κ 0 d = nI (tp Os (β 0) z d)) → (∀ a, 2 ≤ a → κ a = κ0 a) → wp_Planner_roomFor_2 N υ τ ω β post n (nI i) κ := by
    intro n
    induction n with
    | zero => intro i κ _ h2; omega
    | succ n ih =>
      intro i κ hi hn h0 h2
      rw [wp_Planner_roomFor_2]
      refine ⟨fun hc => ?_, fun hc => ?_⟩
      · rw [show (12 : Int32) = nI 12 from rfl, leL (by decide) (by omega)] at hc
        have : i = 12 := by omega
        subst this
        exact pf_room39 N hN υ τ h β (tp Os (β 0) z) (fun d hd => by unfold tp; rw [if_neg (by omega), Nat.add_sub_cancel_left]) κ0 post hp N 0 κ (by omega) (by omega) (fun d hd => h0 d (by omega)) h2
      · rw [show (12 : Int32) = nI 12 from rfl, leL (by decide) (by omega)] at hc
        have step : ∀ v, tp Os (β 0) z i = v → wp_Planner_roomFor_30 N υ τ ω β post (wp_Planner_roomFor_2 N υ τ ω β post n) (nI i) (nI v) (nI i) κ := by
          intro v hv
          unfold wp_Planner_roomFor_30
          refine ⟨vp_in_nI (by omega) (by decide), fun κ1 e1 => ?_⟩
          rw [nI_clamp (by omega)] at e1
          rw [nI_1]
          refine ih (i + 1) κ1 (by omega) (by omega) (fun d hd => ?_) (fun a ha => ?_)
          · by_cases hdi : d = i
            · subst hdi; rw [e1, s2_same, hv]
            · rw [e1, s2_ne _ _ _ _ (Or.inr hdi)]; exact h0 d (by omega)
          · rw [e1, s2_comp _ _ _ _ (by omega)]; exact h2 a ha
        refine pf_TlooksAt N (by omega) τ h (by omega) _ ?_
        by_cases hk : lkT Os i 6 = true
        · rw [if_pos hk]
          refine ⟨fun hq => absurd hq (by decide), fun _ => ?_⟩
          refine pf_countOf N (by omega) β (nI i) z hz hb _ ?_
          exact step _ (by unfold tp; rw [if_pos (by omega), if_pos hk])
        · rw [if_neg hk]
          refine ⟨fun _ => ?_, fun hq => absurd rfl hq⟩
          exact step 0 (by unfold tp; rw [if_pos (by omega), if_neg hk])
  exact main N 0 κ0 (by omega) (by omega) (fun d hd => by omega) (fun _ _ => rfl)
