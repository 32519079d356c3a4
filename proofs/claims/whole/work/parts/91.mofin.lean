/-! finish: the reference answers as the state says -/
theorem repK_up {μ w : St} {k : Nat} {O : Nat → Nat} (h2 : ∀ d, 2 ≤ d → d ≤ 6 → w d k = μ d k) (h7 : ∀ s, s < 4 → w 7 (4 * k + s) = μ 7 (4 * k + s)) (hK : repK μ k O) : repK w k O := by
  obtain ⟨b1, b2, b3, b4, b5, b6, b7⟩ := hK
  exact ⟨by rw [h2 2 (by decide) (by decide)]; exact b1, by rw [h2 3 (by decide) (by decide)]; exact b2, by rw [h2 4 (by decide) (by decide)]; exact b3, by rw [h2 5 (by decide) (by decide)]; exact b4, by rw [h2 6 (by decide) (by decide)]; exact b5, fun s hs => by rw [h7 s hs]; exact b6 s hs, b7⟩
theorem nar_bool {x : Int32} (h : x = 0 ∨ x = 1) : vp_nar .boolean x = x := by
  rcases h with rfl | rfl <;> rfl
/-- copyOffers: the offers of now, at r; the rest as it was -/
theorem pf_copyOffers (N : Nat) (hN : 7 ≤ N) {μ : St} {r : Nat} (hr : r < 12) {Os : Nat → Nat → Nat} (hK : ∀ i, i < 6 → repK μ (72 + i) (Os i)) (post : St → Prop)
    (hp : ∀ u : St, (∀ d, d < 2 ∨ 7 < d → u d = μ d) → (∀ i, i < 6 → repK u (6 * r + i) (Os i)) → (∀ k, k < 6 * r ∨ 6 * r + 6 ≤ k → (∀ d, 2 ≤ d → d ≤ 6 → u d k = μ d k) ∧ ∀ s, s < 4 → u 7 (4 * k + s) = μ 7 (4 * k + s)) → post u) : wp_Model_copyOffers N μ (nI r) post := by
  unfold wp_Model_copyOffers
  have loop : ∀ (n i : Nat) (w : St), i ≤ 6 → 6 - i < n → (∀ d, d < 2 ∨ 7 < d → w d = μ d) → (∀ j, j < i → repK w (6 * r + j) (Os j)) → (∀ k, k < 6 * r ∨ 6 * r + i ≤ k → (∀ d, 2 ≤ d → d ≤ 6 → w d k = μ d k) ∧ ∀ s, s < 4 → w 7 (4 * k + s) = μ 7 (4 * k + s)) → wp_Model_copyOffers_2 N post n (nI r) (nI i) w := by
    intro n
    induction n with
    | zero => intro i w _ h; omega
    | succ n ih =>
      intro i w hi hn f1 f2 f3
      rw [wp_Model_copyOffers_2]
      refine pk_le 6 i (fun hq => ?_) (fun hq => ?_)
      · have : i = 6 := by omega
        subst this
        exact hp w f1 f2 f3
      · have e72 : (72 : Int32) + nI i = nI (72 + i) := nI_add 72 i
        have e6 : (6 : Int32) * nI r + nI i = nI (6 * r + i) := by rw [show (6 : Int32) = nI 6 from rfl, pk_mul, nI_add]
        rw [e72, e6, nI_clamp (by omega), nI_clamp (by omega)]
        have i1 : vp_in (nI (72 + i)) 78 := vp_in_nI (by omega) (by decide)
        have i2 : vp_in (nI (6 * r + i)) 78 := vp_in_nI (by omega) (by decide)
        refine ⟨i1, i2, fun μ4 e4 => ⟨i1, i2, fun μ7 e7 => ⟨i1, i2, fun μ10 e10 => ⟨i1, i2, fun μ13 e13 => ⟨i1, i2, fun μ16 e16 => ?_⟩⟩⟩⟩⟩
        obtain ⟨g1, g2⟩ := f3 (72 + i) (Or.inr (by omega))
        obtain ⟨b1, b2, b3, b4, b5, b6, b7⟩ := hK i hq
        have c2 : w 2 (72 + i) = nI (Os i 0) := by rw [g1 2 (by decide) (by decide)]; exact b1
        have c3 : w 3 (72 + i) = nI (Os i 1) := by rw [g1 3 (by decide) (by decide)]; exact b2
        have c4 : w 4 (72 + i) = nI (Os i 2) := by rw [g1 4 (by decide) (by decide)]; exact b3
        have c5 : w 5 (72 + i) = nI (Os i 3) := by rw [g1 5 (by decide) (by decide)]; exact b4
        have c6 : w 6 (72 + i) = nI (Os i 4) := by rw [g1 6 (by decide) (by decide)]; exact b5
        have c7 : ∀ s, s < 4 → w 7 (4 * (72 + i) + s) = nI (Os i (5 + s)) := fun s hs => by rw [g2 s hs]; exact b6 s hs
        have v7 : μ4 3 (72 + i) = nI (Os i 1) := by rw [e4, s2_ne _ _ _ _ (Or.inl (by decide))]; exact c3
        have v10 : μ7 4 (72 + i) = nI (Os i 2) := by rw [e7, s2_ne _ _ _ _ (Or.inl (by decide)), e4, s2_ne _ _ _ _ (Or.inl (by decide))]; exact c4
        have v13 : μ10 5 (72 + i) = nI (Os i 3) := by rw [e10, s2_ne _ _ _ _ (Or.inl (by decide)), e7, s2_ne _ _ _ _ (Or.inl (by decide)), e4, s2_ne _ _ _ _ (Or.inl (by decide))]; exact c5
        have v16 : μ13 6 (72 + i) = nI (Os i 4) := by rw [e13, s2_ne _ _ _ _ (Or.inl (by decide)), e10, s2_ne _ _ _ _ (Or.inl (by decide)), e7, s2_ne _ _ _ _ (Or.inl (by decide)), e4, s2_ne _ _ _ _ (Or.inl (by decide))]; exact c6
        have n16 : vp_nar .boolean (nI (Os i 4)) = nI (Os i 4) := by
          have h4 := b7.2.2.2.2.2.1
          rcases (show Os i 4 = 0 ∨ Os i 4 = 1 by omega) with e | e
          · rw [e]; exact nar_bool (Or.inl rfl)
          · rw [e]; exact nar_bool (Or.inr rfl)
        rw [c2] at e4
        rw [v7] at e7
        rw [v10] at e10
        rw [v13] at e13
        rw [v16, n16] at e16
        have o16 : ∀ d k, (d ≠ 2 ∧ d ≠ 3 ∧ d ≠ 4 ∧ d ≠ 5 ∧ d ≠ 6) ∨ k ≠ 6 * r + i → μ16 d k = w d k := by
          intro d k h
          have hh : ∀ x, (x = 2 ∨ x = 3 ∨ x = 4 ∨ x = 5 ∨ x = 6) → d ≠ x ∨ k ≠ 6 * r + i := fun x hx => by omega
          rw [e16, s2_ne _ _ _ _ (hh 6 (by omega)), e13, s2_ne _ _ _ _ (hh 5 (by omega)), e10, s2_ne _ _ _ _ (hh 4 (by omega)), e7, s2_ne _ _ _ _ (hh 3 (by omega)), e4, s2_ne _ _ _ _ (hh 2 (by omega))]
        have p2 : μ16 2 (6 * r + i) = nI (Os i 0) := by rw [e16, s2_ne _ _ _ _ (Or.inl (by decide)), e13, s2_ne _ _ _ _ (Or.inl (by decide)), e10, s2_ne _ _ _ _ (Or.inl (by decide)), e7, s2_ne _ _ _ _ (Or.inl (by decide)), e4, s2_same]
        have p3 : μ16 3 (6 * r + i) = nI (Os i 1) := by rw [e16, s2_ne _ _ _ _ (Or.inl (by decide)), e13, s2_ne _ _ _ _ (Or.inl (by decide)), e10, s2_ne _ _ _ _ (Or.inl (by decide)), e7, s2_same]
        have p4 : μ16 4 (6 * r + i) = nI (Os i 2) := by rw [e16, s2_ne _ _ _ _ (Or.inl (by decide)), e13, s2_ne _ _ _ _ (Or.inl (by decide)), e10, s2_same]
        have p5 : μ16 5 (6 * r + i) = nI (Os i 3) := by rw [e16, s2_ne _ _ _ _ (Or.inl (by decide)), e13, s2_same]
        have p6 : μ16 6 (6 * r + i) = nI (Os i 4) := by rw [e16, s2_same]
        have inner : ∀ (n2 s : Nat) (v : St), s ≤ 4 → 4 - s < n2 → (∀ d, d ≠ 7 → v d = μ16 d) → (∀ t, t < s → v 7 (4 * (6 * r + i) + t) = nI (Os i (5 + t))) → (∀ q, q < 4 * (6 * r + i) ∨ 4 * (6 * r + i) + 4 ≤ q → v 7 q = μ16 7 q) → wp_Model_copyOffers_89 N post (wp_Model_copyOffers_2 N post n) n2 (nI r) (nI i) (nI (72 + i)) (nI (6 * r + i)) (nI s) v := by
          intro n2
          induction n2 with
          | zero => intro s v _ h; omega
          | succ n2 ih2 =>
            intro s v hs hn2 k1 k2 k3
            rw [wp_Model_copyOffers_89]
            refine pk_le 4 s (fun hq2 => ?_) (fun hq2 => ?_)
            · have : s = 4 := by omega
              subst this
              rw [nI_1]
              refine ih (i + 1) v (by omega) (by omega) (fun d hd => ?_) (fun j hj => ?_) (fun k hk => ?_)
              · funext q
                rw [k1 d (by omega), o16 d q (Or.inl (by omega)), f1 d hd]
              · by_cases e : j = i
                · subst e
                  exact ⟨by rw [k1 2 (by decide)]; exact p2, by rw [k1 3 (by decide)]; exact p3, by rw [k1 4 (by decide)]; exact p4, by rw [k1 5 (by decide)]; exact p5, by rw [k1 6 (by decide)]; exact p6, k2, b7⟩
                · refine repK_up (fun d h2 h6 => ?_) (fun s hs => ?_) (f2 j (by omega))
                  · rw [k1 d (by omega), o16 d _ (Or.inr (by omega))]
                  · rw [k3 _ (by omega), o16 7 _ (Or.inl (by omega))]
              · obtain ⟨m1, m2⟩ := f3 k (by omega)
                refine ⟨fun d h2 h6 => ?_, fun s hs => ?_⟩
                · rw [k1 d (by omega), o16 d _ (Or.inr (by omega))]; exact m1 d h2 h6
                · rw [k3 _ (by omega), o16 7 _ (Or.inl (by omega))]; exact m2 s hs
            · have e1 : (4 : Int32) * nI (72 + i) + nI s = nI (4 * (72 + i) + s) := by rw [show (4 : Int32) = nI 4 from rfl, pk_mul, nI_add]
              have e2 : (4 : Int32) * nI (6 * r + i) + nI s = nI (4 * (6 * r + i) + s) := by rw [show (4 : Int32) = nI 4 from rfl, pk_mul, nI_add]
              rw [e1, e2, nI_clamp (by omega), nI_clamp (by omega), nI_1]
              refine ⟨vp_in_nI (by omega) (by decide), vp_in_nI (by omega) (by decide), fun μ20 e20 => ?_⟩
              have hv : v 7 (4 * (72 + i) + s) = nI (Os i (5 + s)) := by rw [k3 _ (by omega), o16 7 _ (Or.inl (by omega))]; exact c7 s hq2
              rw [hv] at e20
              refine ih2 (s + 1) μ20 (by omega) (by omega) (fun d hd => ?_) (fun t ht => ?_) (fun q hq3 => ?_)
              · rw [e20, s2_comp _ _ _ _ hd]; exact k1 d hd
              · by_cases e : t = s
                · rw [e, e20, s2_same]
                · rw [e20, s2_ne _ _ _ _ (Or.inr (by omega))]; exact k2 t (by omega)
              · rw [e20, s2_ne _ _ _ _ (Or.inr (by omega))]; exact k3 q hq3
        exact inner N 0 μ16 (by omega) (by omega) (fun _ _ => rfl) (fun t ht => by omega) (fun _ _ => rfl)
  exact loop N 0 μ (by omega) (by omega) (fun _ _ => rfl) (fun j hj => by omega) (fun k _ => ⟨fun _ _ _ => rfl, fun _ _ => rfl⟩)
