/-! the planner's small methods -/
theorem pf_leastLeft (N : Nat) (hN : 13 ≤ N) {κ : St} (υ : St) {v : Nat → Nat} (hv : ∀ d, d < 12 → κ 2 d = nI (v d) ∧ v d < 100) (post : Int32 → Unit → Prop)
    (h1 : ∀ a, a < 12 → 0 < v a → (∀ b, b < a → v b = 0) → post (nI a) ()) (h0 : (∀ b, b < 12 → v b = 0) → post (-1) ()) : wp_Planner_leastLeft N κ υ post := by
  have main : ∀ (n i : Nat), i ≤ 12 → 12 - i < n → (∀ b, b < i → v b = 0) → wp_Planner_leastLeft_2 N κ υ post n (nI i) := by
    intro n
    induction n with
    | zero => intro i _ h2; omega
    | succ n ih =>
      intro i hi hn hz
      rw [wp_Planner_leastLeft_2]
      refine ⟨fun hc => ?_, fun hc => ?_⟩
      · rw [show (12 : Int32) = nI 12 from rfl, leL (by decide) (by omega)] at hc
        exact h0 (fun b hb => hz b (by omega))
      · rw [show (12 : Int32) = nI 12 from rfl, leL (by decide) (by omega)] at hc
        have hvi := hv i (by omega)
        rw [nI_clamp (by omega), hvi.1, show (0 : Int32) = nI 0 from rfl, leL (by omega) (by omega)]
        refine ⟨vp_in_nI (by omega) (by decide), fun hq => ?_, fun hq => ?_⟩
        · rw [nI_1]
          refine ih (i + 1) (by omega) (by omega) (fun b hb => ?_)
          by_cases hbi : b = i
          · subst hbi; omega
          · exact hz b (by omega)
        · exact h1 i (by omega) (by omega) hz
  exact main N 0 (by omega) (by omega) (fun b hb => by omega)
theorem pf_isLimited (N : Nat) {κ : St} (υ : St) {o m : Nat} (ho : o < 6) (hm : κ 0 (12 + o) = nI m) (hm2 : m < 100) (post : Int32 → Unit → Prop) (hp : post (nI (if 0 < m then 1 else 0)) ()) : wp_Planner_isLimited N κ υ (nI o) post := by
  unfold wp_Planner_isLimited
  rw [show (12 : Int32) = nI 12 from rfl, nI_add, nI_clamp (by omega), hm, show (0 : Int32) = nI 0 from rfl, leL (by omega) (by omega)]
  refine ⟨vp_in_nI (by omega) (by decide), fun hc => ?_, fun hc => ?_⟩
  · rw [if_neg (by omega)] at hp; exact hp
  · rw [if_pos (by omega)] at hp; exact hp
theorem pf_savedAt (N : Nat) {κ : St} (υ : St) {x : Nat} (hx : x < 3000) (post : Int32 → Unit → Prop) (hp : post (κ 3 x) ()) : wp_Planner_savedAt N κ υ (nI x) post := by
  unfold wp_Planner_savedAt
  refine ⟨fun hc => absurd hc (nI_pos (by omega)), fun _ => ⟨fun hc => ?_, fun _ => ⟨vp_in_nI hx (by decide), ?_⟩⟩⟩
  · rw [show (3000 : Int32) = nI 3000 from rfl, leL (by decide) (by omega)] at hc; omega
  · rw [nI_clamp (by omega)]; exact hp
