/-! solve's loop over the states -/
theorem digit_le_enc {t v : Nat → Nat} {d : Nat} : ∀ n, d < n → v d * str t d ≤ encN t v n := by
  intro n
  induction n with
  | zero => intro h; omega
  | succ n ih =>
    intro h
    rw [encN_s]
    by_cases hd : d = n
    · subst hd; omega
    · have := ih (by omega); omega
theorem pf_solve65 (N : Nat) (hN : 1261 ≤ N) (τ : St) (ω : Nat → St) (β : St) {υ : St} {t : Nat → Nat} (htb : ∀ d, d < 18 → t d < 100) {z : Nat} {o l : Nat → Nat} {A : Nat → Nat → Nat} {sv sp : Nat → Nat} (hU : repU υ z o l A sv sp) {R : Nat} (hR : R = str t 18) (hR3 : R ≤ 3000) (ch : Nat → List Nat) (hch : ∀ a, a < 12 → chn υ z (υ 4 a) (ch a) ∧ (ch a).length ≤ 1260)
    (hfit : ∀ x, x < R → ∀ a, a < 12 → ∀ j ∈ ch a, fitsU t (dg t x) (o j) (l j) (apj A j) = true → sp j ≤ x ∧ 0 < sp j) {S : Nat → Nat} (hSb : ∀ s, s < R → S s ≤ 1000000)
    (hE1 : ∀ x, 0 < x → x < R → ∀ a, a < 12 → 0 < dg t x a → (∀ b, b < a → dg t x b = 0) → S x = bst t (dg t x) o l A sv sp S x (ch a) (S (x - str t a))) (hE0 : ∀ x, 0 < x → x < R → (∀ b, b < 12 → dg t x b = 0) → S x = 0) (post : St × St → Prop)
    (hp : ∀ κ : St, (∀ d, d < 18 → κ 0 d = nI (t d)) → (∀ d, d < 18 → κ 1 d = nI (str t d)) → (∀ s, s < R → κ 3 s = nI (S s)) → κ 5 0 = nI (R - 1) → post (κ, υ)) :
    ∀ (n x : Nat) (κ : St), 1 ≤ x → x ≤ R → R - x < n → (∀ d, d < 18 → κ 0 d = nI (t d)) → (∀ d, d < 18 → κ 1 d = nI (str t d)) → (∀ d, d < 18 → κ 2 d = nI (dg t (x - 1) d)) → (∀ s, s < x → κ 3 s = nI (S s)) → wp_Planner_solve_65 N τ ω β post n (nI R) (nI x) κ υ := by
  have fin : ∀ κ : St, (∀ d, d < 18 → κ 0 d = nI (t d)) → (∀ d, d < 18 → κ 1 d = nI (str t d)) → (∀ s, s < R → κ 3 s = nI (S s)) → 0 < R → wp_Planner_solve_102 N τ ω β post (nI R) κ υ := by
    intro κ k0 k1 k3 hR0
    unfold wp_Planner_solve_102
    intro κ1 e1
    refine hp κ1 (fun d hd => ?_) (fun d hd => ?_) (fun s hs => ?_) ?_
    · rw [e1, s2_ne _ _ _ _ (Or.inl (by omega))]; exact k0 d hd
    · rw [e1, s2_ne _ _ _ _ (Or.inl (by omega))]; exact k1 d hd
    · rw [e1, s2_ne _ _ _ _ (Or.inl (by omega))]; exact k3 s hs
    · rw [e1, s2_same, show (1 : Int32) = nI 1 from rfl, pk_sub (by omega)]
  intro n
  induction n with
  | zero => intro x κ _ _ h; omega
  | succ n ih =>
    intro x κ hx1 hxR hn k0 k1 k2 k3
    rw [wp_Planner_solve_65]
    refine ⟨fun hc => ?_, fun hc => ⟨fun hc2 => ?_, fun hc2 => ?_⟩⟩
    · rw [leL (by omega) (by omega)] at hc
      exact fin κ k0 k1 (fun s hs => k3 s (by omega)) (by omega)
    · rw [leL (by omega) (by omega)] at hc
      rw [show (3000 : Int32) = nI 3000 from rfl, leL (by decide) (by omega)] at hc2
      omega
    · rw [leL (by omega) (by omega)] at hc
      have e0 : encN t (dg t (x - 1)) 18 = x - 1 := enc_dg 18 (x - 1) (by omega)
      refine pf_countUp N (by omega) υ (t := t) (v := dg t (x - 1)) (fun d hd => ⟨k0 d hd, htb d hd⟩) (fun d hd => ⟨k2 d hd, dg_le _ _ _⟩) (by rw [e0, ← hR]; omega) _ ?_
      intro κ1 w hk hw hwe
      rw [e0] at hwe
      have hwd : ∀ d, d < 18 → w d = dg t x d := fun d hd => by
        rw [← dg_enc 18 d hd (fun e he => (hw e he).2), hwe, show x - 1 + 1 = x by omega]
      have j0 : ∀ d, d < 18 → κ1 0 d = nI (t d) := fun d hd => by rw [hk 0 (by decide)]; exact k0 d hd
      have j1 : ∀ d, d < 18 → κ1 1 d = nI (str t d) := fun d hd => by rw [hk 1 (by decide)]; exact k1 d hd
      have j2 : ∀ d, d < 18 → κ1 2 d = nI (dg t x d) := fun d hd => by rw [(hw d hd).1, hwd d hd]
      have j3 : ∀ s, s < x → κ1 3 s = nI (S s) := fun s hs => by rw [hk 3 (by decide)]; exact k3 s hs
      have hex : encN t (dg t x) 18 = x := enc_dg 18 x (by omega)
      have done : ∀ v, v = nI (S x) → (vp_in (nI x) 3000 ∧ (∀ κ19, κ19 = s2 κ1 3 (Int32.toNatClampNeg (nI x)) v → wp_Planner_solve_65 N τ ω β post n (nI R) (nI x + 1) κ19 υ)) := by
        intro v hv
        refine ⟨vp_in_nI (by omega) (by decide), fun κ2 e2 => ?_⟩
        rw [nI_clamp (by omega), hv] at e2
        rw [nI_1]
        refine ih (x + 1) κ2 (by omega) (by omega) (by omega) (fun d hd => ?_) (fun d hd => ?_) (fun d hd => ?_) (fun s hs => ?_)
        · rw [e2, s2_ne _ _ _ _ (Or.inl (by omega))]; exact j0 d hd
        · rw [e2, s2_ne _ _ _ _ (Or.inl (by omega))]; exact j1 d hd
        · rw [e2, s2_ne _ _ _ _ (Or.inl (by omega)), show x + 1 - 1 = x by omega]; exact j2 d hd
        · by_cases hsx : s = x
          · subst hsx; rw [e2, s2_same]
          · rw [e2, s2_ne _ _ _ _ (Or.inr hsx)]; exact j3 s (by omega)
      refine pf_bestSaving N hN (t := t) (v := dg t x) (st := str t) (fun d hd => ⟨j0 d hd, htb d hd⟩) (fun d hd => ⟨j2 d hd, Nat.lt_of_le_of_lt (dg_le _ _ _) (htb d hd)⟩) j1 hU (by omega) (fun s hs => ⟨j3 s hs, hSb s (by omega)⟩) ch hch (hfit x (by omega)) (fun a ha hva => ?_) _ (fun a ha hva hb => ?_) (fun hb => ?_)
      · have h1 := digit_le_enc (t := t) (v := dg t x) (d := a) 18 (by omega)
        rw [hex] at h1
        have h2 : 1 * str t a ≤ dg t x a * str t a := Nat.mul_le_mul_right _ hva
        exact ⟨by omega, str_pos t a⟩
      · exact done _ (by rw [← hE1 x (by omega) (by omega) a ha hva hb])
      · exact done _ (by rw [hE0 x (by omega) (by omega) hb]; rfl)
