/-! firstBestUse: alone, or the first use that reaches the state's saving -/
theorem pf_firstBestUse (N : Nat) (hN : 1261 ≤ N) {κ υ : St} {t v st : Nat → Nat} (ht : ∀ d, d < 18 → κ 0 d = nI (t d) ∧ t d < 100) (hv : ∀ d, d < 18 → κ 2 d = nI (v d) ∧ v d < 100) (hst : ∀ d, d < 18 → κ 1 d = nI (st d)) {z : Nat} {o l : Nat → Nat} {A : Nat → Nat → Nat} {sv sp : Nat → Nat} (hU : repU υ z o l A sv sp) {S : Nat → Nat} {x a : Nat} (hx : x < 3000) (hS : ∀ s, s ≤ x → κ 3 s = nI (S s) ∧ S s ≤ 1000000) (ha : a < 12) (hal : st a ≤ x ∧ 0 < st a)
    {ch : List Nat} (hch : chn υ z (υ 4 a) ch ∧ ch.length ≤ 1260) (hfit : ∀ j ∈ ch, fitsU t v (o j) (l j) (apj A j) = true → sp j ≤ x ∧ 0 < sp j) (post : Int32 → Unit → Prop) (h1 : S (x - st a) = S x → post (-1) ()) (h2 : S (x - st a) ≠ S x → post (optI (fst1 t v o l A sv sp S x (S x) ch)) ()) : wp_Planner_firstBestUse N κ υ (nI x) (nI a) post := by
  unfold wp_Planner_firstBestUse
  have hSx := hS x (Nat.le_refl _)
  have hSa := hS (x - st a) (by omega)
  refine pf_savedAt N υ hx _ ⟨vp_in_nI (by omega) (by decide), ?_⟩
  rw [nI_clamp (by omega), hst a (by omega), pk_sub hal.1]
  refine pf_savedAt N υ (by omega) _ ?_
  rw [hSx.1, hSa.1, eqL (by omega) (by omega)]
  refine ⟨fun hq => ?_, h1⟩
  unfold wp_Uses_firstWith
  rw [nI_clamp (by omega)]
  exact ⟨vp_in_nI ha (by decide), pf_first37 N (by omega) ht hv hU (by omega) hx (fun s hs => hS s (by omega)) post N ch 0 _ hch.1 (by omega) (by omega) hfit (h2 hq)⟩
