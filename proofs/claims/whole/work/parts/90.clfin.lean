/-! finish: the till answers as the state says -/
theorem clT_finV0 {A : AS} {θ β τ : St} {ω : Nat → St} {π α : St} (κ υ : St) (ρ : Nat → Int64) (hok : okS A) (hA : clS A θ β τ ω π) (hα : α 2 0 = nI (AR A)) (N : Nat) (hN : 100001 ≤ N) {st : Nat} (hS : repS υ st) (hst : st + 6 < 2 ^ 30) (x1 : Int32) (post : Int32 → (St × St × St × St × St × (Nat → Int64) × Option NwT) → Prop) (xp : String → (St × St × St × St × St × (Nat → Int64) × Option NwT) → Prop)
    (h1 : Az A = 0 → xp eIS (θ, β, κ, υ, π, ρ, none))
    (h2 : Az A ≠ 0 → x1 < nI (tlA A) → ∀ θ2 κ2 υ2 π2 ρ2 st2, st2 ≤ st + 6 → repS υ2 st2 → clS A θ2 β τ ω π2 → xp eIA (θ2, β, κ2, υ2, π2, ρ2, none))
    (h3 : Az A ≠ 0 → ¬ x1 < nI (tlA A) → AR A = 12 → ∀ θ2 κ2 υ2 π2 ρ2 st2, st2 ≤ st + 6 → repS υ2 st2 → clS A θ2 β τ ω π2 → xp eUO (θ2, β, κ2, υ2, π2, ρ2, none))
    (h0 : Az A ≠ 0 → ¬ x1 < nI (tlA A) → AR A < 12 → ∀ θ2 β2 κ2 υ2 π2 ρ2 st2 (w : NwT), st2 ≤ st + 6 → repS υ2 st2 → clS (aFin A) θ2 β2 τ ω π2 → rcS (aFin A) (AR A) w.1.2.2.1 w.1.2.2.2 w.1.2.1.1 w.1.2.1.2 → post (x1 - nI (tlA A)) (θ2, β2, κ2, υ2, π2, ρ2, some w)) : wp_Till_finishV0_0 N τ ω α post xp (K71_V0 N τ ω post) x1 θ β κ υ π ρ := by
  obtain ⟨a1, a2, a3, a4, a5⟩ := id hA
  have hR := hok.hR
  have htl := planP_ok hok.hO hok.hC hok.hz hok.hb
  unfold wp_Till_finishV0_0
  refine ⟨fun hne => ?_, fun he => h1 ?_⟩
  · have hz : Az A ≠ 0 := fun e => hne (by rw [a2.2.1, e]; rfl)
    refine pf_findPlan N hN κ υ ρ hok hA hS hst _ (fun θ2 κ2 υ2 π2 ρ2 st2 g1 g2 g3 g4 => ?_)
    refine pf_paidIn N (by omega) ρ2 a2 (Y := psY (plA A)) (fun j hj => (g4.1 j hj).2.2.1) _ ?_
    rw [htl.1]
    refine ⟨fun hlt => ?_, fun hge => ?_⟩
    · unfold wp_Till_finishV0_46 wp_Till_requireArgument
      exact ⟨fun h => absurd rfl h, fun _ => h2 hz hlt θ2 κ2 υ2 π2 ρ2 st2 g1 g2 g3⟩
    · unfold wp_Till_finishV0_46 wp_Till_requireArgument wp_AL_size
      refine ⟨fun _ => ?_, fun h => absurd h (by decide)⟩
      rw [hα]
      refine ⟨fun hlt => ?_, fun hge2 => h3 hz hge ?_ θ2 κ2 υ2 π2 ρ2 st2 g1 g2 g3⟩
      · have hr : AR A < 12 := (nI_ltI (a := AR A) (b := 12) (by omega) (by decide)).mp hlt
        refine ⟨fun τ2 ω2 u => repB u.2 (Ab A) (Az A) ∧ (∀ i, i < Az A → u.1 2 i = psF (plA A) i ∧ u.1 3 i = nI (psY (plA A) i) ∧ u.1 4 i = 1) ∧ u.1 5 0 = nI (tlA A) ∧ u.1 6 0 = 0, fun τ2 ω2 _ _ => ?_, fun w hw1 hw2 hw3 => ?_⟩
        · refine pf_RecInit N (by omega) τ2 ω2 τ ω ρ2 a2 g4 _ (fun χ β2 q1 q2 q3 q4 => ⟨q1, q2, ?_, q4⟩)
          show χ 5 0 = nI (tlA A)
          rw [q3, htl.1]
        · refine h0 hz hge hr _ _ κ2 υ2 π2 ρ2 st2 w g1 g2 ⟨?_, ⟨Nat.zero_le _, ?_, fun i hi => absurd hi (Nat.not_lt_zero i)⟩, g3.2.2.1, a4, Or.inl ?_⟩ (rcS_new hw3.1 (fun a ha => ?_) (fun i hi => cpO_rep (hw2 i hi) (a4 i hi)) hw3.2.1 hw3.2.2.1 hw3.2.2.2)
          · rw [s2_ne _ _ _ _ (Or.inl (by decide)), s2_same]; show θ2 8 0 + nI (tlA A) = AD A + nI (tlA A); rw [g3.1]
          · rw [s2_same]; rfl
          · rw [s2_same]
          · rw [hw1 a ha]; exact (a3 a ha).1
      · have : ¬ AR A < 12 := fun h => hge2 ((nI_ltI (a := AR A) (b := 12) (by omega) (by decide)).mpr h)
        omega
  · rw [a2.2.1] at he
    exact (eqL (n := Az A) (m := 0) (by have := a2.1; omega) (by decide)).mp he
theorem clT_finV1 {A : AS} {θ β τ : St} {ω : Nat → St} {π α : St} (ε : St) (κ υ : St) (ρ : Nat → Int64) (hok : okS A) (hA : clS A θ β τ ω π) (hα : α 2 0 = nI (AR A)) (N : Nat) (hN : 100001 ≤ N) {st : Nat} (hS : repS υ st) (hst : st + 6 < 2 ^ 30) (x1 : Int32) (post : Int32 → (St × St × St × St × St × (Nat → Int64) × Option NwT) → Prop) (xp : String → (St × St × St × St × St × (Nat → Int64) × Option NwT) → Prop)
    (h1 : Az A = 0 → xp eIS (θ, β, κ, υ, π, ρ, none))
    (h2 : Az A ≠ 0 → x1 < nI (tlA A) → ∀ θ2 κ2 υ2 π2 ρ2 st2, st2 ≤ st + 6 → repS υ2 st2 → clS A θ2 β τ ω π2 → xp eIA (θ2, β, κ2, υ2, π2, ρ2, none))
    (h3 : Az A ≠ 0 → ¬ x1 < nI (tlA A) → AR A = 12 → ∀ θ2 κ2 υ2 π2 ρ2 st2, st2 ≤ st + 6 → repS υ2 st2 → clS A θ2 β τ ω π2 → xp eUO (θ2, β, κ2, υ2, π2, ρ2, none))
    (h0 : Az A ≠ 0 → ¬ x1 < nI (tlA A) → AR A < 12 → ∀ θ2 β2 κ2 υ2 π2 ρ2 st2 (w : NwT), st2 ≤ st + 6 → repS υ2 st2 → clS (aFin A) θ2 β2 τ ω π2 → rcS (aFin A) (AR A) w.1.2.2.1 w.1.2.2.2 w.1.2.1.1 w.1.2.1.2 → post (x1 - nI (tlA A)) (θ2, β2, κ2, υ2, π2, ρ2, some w)) : wp_Till_finishV1_0 N τ ω α ε post xp (K71_V1 N τ ω post) x1 θ β κ υ π ρ := by
  obtain ⟨a1, a2, a3, a4, a5⟩ := id hA
  have hR := hok.hR
  have htl := planP_ok hok.hO hok.hC hok.hz hok.hb
  unfold wp_Till_finishV1_0
  refine ⟨fun hne => ?_, fun he => h1 ?_⟩
  · have hz : Az A ≠ 0 := fun e => hne (by rw [a2.2.1, e]; rfl)
    refine pf_findPlan N hN κ υ ρ hok hA hS hst _ (fun θ2 κ2 υ2 π2 ρ2 st2 g1 g2 g3 g4 => ?_)
    refine pf_paidIn N (by omega) ρ2 a2 (Y := psY (plA A)) (fun j hj => (g4.1 j hj).2.2.1) _ ?_
    rw [htl.1]
    refine ⟨fun hlt => ?_, fun hge => ?_⟩
    · unfold wp_Till_finishV1_46 wp_Till_requireArgument
      exact ⟨fun h => absurd rfl h, fun _ => h2 hz hlt θ2 κ2 υ2 π2 ρ2 st2 g1 g2 g3⟩
    · unfold wp_Till_finishV1_46 wp_Till_requireArgument wp_AL_size
      refine ⟨fun _ => ?_, fun h => absurd h (by decide)⟩
      rw [hα]
      refine ⟨fun hlt => ?_, fun hge2 => h3 hz hge ?_ θ2 κ2 υ2 π2 ρ2 st2 g1 g2 g3⟩
      · have hr : AR A < 12 := (nI_ltI (a := AR A) (b := 12) (by omega) (by decide)).mp hlt
        refine ⟨fun τ2 ω2 u => repB u.2 (Ab A) (Az A) ∧ (∀ i, i < Az A → u.1 2 i = psF (plA A) i ∧ u.1 3 i = nI (psY (plA A) i) ∧ u.1 4 i = 1) ∧ u.1 5 0 = nI (tlA A) ∧ u.1 6 0 = 0, fun τ2 ω2 _ _ => ?_, fun w hw1 hw2 hw3 => ?_⟩
        · refine pf_RecInit N (by omega) τ2 ω2 τ ω ρ2 a2 g4 _ (fun χ β2 q1 q2 q3 q4 => ⟨q1, q2, ?_, q4⟩)
          show χ 5 0 = nI (tlA A)
          rw [q3, htl.1]
        · refine h0 hz hge hr _ _ κ2 υ2 π2 ρ2 st2 w g1 g2 ⟨?_, ⟨Nat.zero_le _, ?_, fun i hi => absurd hi (Nat.not_lt_zero i)⟩, g3.2.2.1, a4, Or.inl ?_⟩ (rcS_new hw3.1 (fun a ha => ?_) (fun i hi => cpO_rep (hw2 i hi) (a4 i hi)) hw3.2.1 hw3.2.2.1 hw3.2.2.2)
          · rw [s2_ne _ _ _ _ (Or.inl (by decide)), s2_same]; show θ2 8 0 + nI (tlA A) = AD A + nI (tlA A); rw [g3.1]
          · rw [s2_same]; rfl
          · rw [s2_same]
          · rw [hw1 a ha]; exact (a3 a ha).1
      · have : ¬ AR A < 12 := fun h => hge2 ((nI_ltI (a := AR A) (b := 12) (by omega) (by decide)).mpr h)
        omega
  · rw [a2.2.1] at he
    exact (eqL (n := Az A) (m := 0) (by have := a2.1; omega) (by decide)).mp he
theorem clT_finV2 {A : AS} {θ β τ : St} {ω : Nat → St} {π α : St} (ε : St) (κ υ : St) (ρ : Nat → Int64) (hok : okS A) (hA : clS A θ β τ ω π) (hα : α 2 0 = nI (AR A)) (N : Nat) (hN : 100001 ≤ N) {st : Nat} (hS : repS υ st) (hst : st + 6 < 2 ^ 30) (x1 : Int32) (post : Int32 → (St × St × St × St × St × (Nat → Int64) × Option NwT) → Prop) (xp : String → (St × St × St × St × St × (Nat → Int64) × Option NwT) → Prop)
    (h1 : Az A = 0 → xp eIS (θ, β, κ, υ, π, ρ, none))
    (h2 : Az A ≠ 0 → x1 < nI (tlA A) → ∀ θ2 κ2 υ2 π2 ρ2 st2, st2 ≤ st + 6 → repS υ2 st2 → clS A θ2 β τ ω π2 → xp eIA (θ2, β, κ2, υ2, π2, ρ2, none))
    (h3 : Az A ≠ 0 → ¬ x1 < nI (tlA A) → AR A = 12 → ∀ θ2 κ2 υ2 π2 ρ2 st2, st2 ≤ st + 6 → repS υ2 st2 → clS A θ2 β τ ω π2 → xp eUO (θ2, β, κ2, υ2, π2, ρ2, none))
    (h0 : Az A ≠ 0 → ¬ x1 < nI (tlA A) → AR A < 12 → ∀ θ2 β2 κ2 υ2 π2 ρ2 st2 (w : NwT), st2 ≤ st + 6 → repS υ2 st2 → clS (aFin A) θ2 β2 τ ω π2 → rcS (aFin A) (AR A) w.1.2.2.1 w.1.2.2.2 w.1.2.1.1 w.1.2.1.2 → post (x1 - nI (tlA A)) (θ2, β2, κ2, υ2, π2, ρ2, some w)) : wp_Till_finishV2_0 N τ ω α ε post xp (K71_V2 N τ ω post) x1 θ β κ υ π ρ := by
  obtain ⟨a1, a2, a3, a4, a5⟩ := id hA
  have hR := hok.hR
  have htl := planP_ok hok.hO hok.hC hok.hz hok.hb
  unfold wp_Till_finishV2_0
  refine ⟨fun hne => ?_, fun he => h1 ?_⟩
  · have hz : Az A ≠ 0 := fun e => hne (by rw [a2.2.1, e]; rfl)
    refine pf_findPlan N hN κ υ ρ hok hA hS hst _ (fun θ2 κ2 υ2 π2 ρ2 st2 g1 g2 g3 g4 => ?_)
    refine pf_paidIn N (by omega) ρ2 a2 (Y := psY (plA A)) (fun j hj => (g4.1 j hj).2.2.1) _ ?_
    rw [htl.1]
    refine ⟨fun hlt => ?_, fun hge => ?_⟩
    · unfold wp_Till_finishV2_46 wp_Till_requireArgument
      exact ⟨fun h => absurd rfl h, fun _ => h2 hz hlt θ2 κ2 υ2 π2 ρ2 st2 g1 g2 g3⟩
    · unfold wp_Till_finishV2_46 wp_Till_requireArgument wp_AL_size
      refine ⟨fun _ => ?_, fun h => absurd h (by decide)⟩
      rw [hα]
      refine ⟨fun hlt => ?_, fun hge2 => h3 hz hge ?_ θ2 κ2 υ2 π2 ρ2 st2 g1 g2 g3⟩
      · have hr : AR A < 12 := (nI_ltI (a := AR A) (b := 12) (by omega) (by decide)).mp hlt
        refine ⟨fun τ2 ω2 u => repB u.2 (Ab A) (Az A) ∧ (∀ i, i < Az A → u.1 2 i = psF (plA A) i ∧ u.1 3 i = nI (psY (plA A) i) ∧ u.1 4 i = 1) ∧ u.1 5 0 = nI (tlA A) ∧ u.1 6 0 = 0, fun τ2 ω2 _ _ => ?_, fun w hw1 hw2 hw3 => ?_⟩
        · refine pf_RecInit N (by omega) τ2 ω2 τ ω ρ2 a2 g4 _ (fun χ β2 q1 q2 q3 q4 => ⟨q1, q2, ?_, q4⟩)
          show χ 5 0 = nI (tlA A)
          rw [q3, htl.1]
        · refine h0 hz hge hr _ _ κ2 υ2 π2 ρ2 st2 w g1 g2 ⟨?_, ⟨Nat.zero_le _, ?_, fun i hi => absurd hi (Nat.not_lt_zero i)⟩, g3.2.2.1, a4, Or.inl ?_⟩ (rcS_new hw3.1 (fun a ha => ?_) (fun i hi => cpO_rep (hw2 i hi) (a4 i hi)) hw3.2.1 hw3.2.2.1 hw3.2.2.2)
          · rw [s2_ne _ _ _ _ (Or.inl (by decide)), s2_same]; show θ2 8 0 + nI (tlA A) = AD A + nI (tlA A); rw [g3.1]
          · rw [s2_same]; rfl
          · rw [s2_same]
          · rw [hw1 a ha]; exact (a3 a ha).1
      · have : ¬ AR A < 12 := fun h => hge2 ((nI_ltI (a := AR A) (b := 12) (by omega) (by decide)).mpr h)
        omega
  · rw [a2.2.1] at he
    exact (eqL (n := Az A) (m := 0) (by have := a2.1; omega) (by decide)).mp he
