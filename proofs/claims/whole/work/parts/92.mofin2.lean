/-! finish: the reference answers as the state says -/
theorem recS_up {A : AS} {μ w : St} {r : Nat} (hz : Arz A r ≤ 10) (h12 : w 12 r = μ 12 r) (h13 : w 13 r = μ 13 r) (h14 : w 14 r = μ 14 r) (hq : ∀ d q, 15 ≤ d → d ≤ 19 → 10 * r ≤ q → q < 10 * r + 10 → w d q = μ d q) (hk : ∀ i, i < 6 → repK μ (6 * r + i) (ArO A r i) → repK w (6 * r + i) (ArO A r i)) (h : recS A μ r) : recS A w r := by
  obtain ⟨a1, a2, a3, a4, a5⟩ := h
  refine ⟨h12.trans a1, h13.trans a2, h14.trans a3, fun i hi => ?_, fun i hi => hk i hi (a5 i hi)⟩
  rw [hq 15 _ (by decide) (by decide) (by omega) (by omega), hq 16 _ (by decide) (by decide) (by omega) (by omega), hq 17 _ (by decide) (by decide) (by omega) (by omega), hq 18 _ (by decide) (by decide) (by omega) (by omega), hq 19 _ (by decide) (by decide) (by omega) (by omega)]
  exact a4 i hi
theorem recS_old {A : AS} {μ : St} {r : Nat} (h : recS A μ r) (hr : r ≠ AR A) : recS (aFin A) μ r := by
  unfold recS Arb Arz ArC ArO Arf Ary Ark Arp Arr aFin
  dsimp only
  rw [gup_ne _ _ hr, gup_ne _ _ hr, gup_ne _ _ hr, gup_ne _ _ hr, gup_ne _ _ hr, gup_ne _ _ hr, gup_ne _ _ hr, gup_ne _ _ hr, gup_ne _ _ hr]
  exact h
theorem recS_new {A : AS} {μ : St} (h1 : μ 12 (AR A) = nI (Az A)) (h2 : μ 13 (AR A) = nI (tlA A)) (h3 : μ 14 (AR A) = 0) (h4 : ∀ i, i < Az A → μ 15 (10 * AR A + i) = nI (Ab A i) ∧ μ 16 (10 * AR A + i) = nI (AC A (Ab A i)) ∧ μ 17 (10 * AR A + i) = psF (plA A) i ∧ μ 18 (10 * AR A + i) = nI (psY (plA A) i) ∧ μ 19 (10 * AR A + i) = 0) (h5 : ∀ i, i < 6 → repK μ (6 * AR A + i) (AOs A i)) : recS (aFin A) μ (AR A) := by
  unfold recS Arb Arz ArC ArO Arf Ary Ark Arp Arr aFin
  dsimp only
  rw [gup_same, gup_same, gup_same, gup_same, gup_same, gup_same, gup_same, gup_same, gup_same]
  exact ⟨h1, h2, h3, h4, h5⟩
theorem moT_fin {A : AS} {μ : St} (hok : okS A) (hA : moS A μ) (N : Nat) (hN : 100001 ≤ N) (x1 : Int32) (post : Int32 → St → Prop)
    (h1 : Az A = 0 → ∀ v u, u 39 0 = 1 → moS A u → post v u)
    (h2 : Az A ≠ 0 → x1 < nI (tlA A) → ∀ v u, u 39 0 = 2 → moS A u → post v u)
    (h3 : Az A ≠ 0 → ¬ x1 < nI (tlA A) → AR A = 12 → ∀ v u, u 39 0 = 3 → moS A u → post v u)
    (h0 : Az A ≠ 0 → ¬ x1 < nI (tlA A) → AR A < 12 → ∀ u, u 39 0 = 0 → moS (aFin A) u → post (x1 - nI (tlA A)) u) : wp_Model_finish N μ x1 post := by
  have hz := hok.hz
  have hR := hok.hR
  unfold wp_Model_finish
  rw [hA.2.2.2.1]
  refine ⟨fun hne => ?_, fun he => ?_⟩
  · have hz0 : Az A ≠ 0 := fun e => hne (by rw [e]; rfl)
    unfold wp_Model_finish_13
    intro μ2 e2
    have e39 : μ2 39 0 = 0 := by rw [e2, s2_same]
    have hA2 : moS A μ2 := moS_same (fun d hd => by rw [e2, s2_comp _ _ _ _ (by omega)]) hA
    refine ⟨fun _ => ?_, fun h => absurd e39 h⟩
    refine pf_takeBasket N (by omega) hok hA2 _ (fun u4 f4 hX4 => ?_)
    refine pf_Mleast N hN hX4 hok.hC hok.hroom _ (fun u6 f6 => ?_)
    have hA6 : moS A u6 := moS_same (fun d hd => by rw [f6 d (by omega), f4 d (by omega)]) hA2
    have hX6 := repX_same (w := u6) (fun d hd => f6 d (by omega)) hX4
    have stop : ∀ y : Int32, ¬ y = 0 → (∀ v u, u 39 0 = y → moS A u → post v u) → wp_Model_finish_58 N post x1 (nI (tlA A)) y u6 := by
      intro y hy hk
      unfold wp_Model_finish_58
      intro μ10 e10
      have e : μ10 39 0 = y := by rw [e10, s2_same]
      rw [e]
      exact ⟨fun h => absurd h hy, fun _ => hk 0 μ10 e (moS_same (fun d hd => by rw [e10, s2_comp _ _ _ _ (by omega)]) hA6)⟩
    refine ⟨fun hle => ?_, fun hgt => stop 2 (by decide) (h2 hz0 (Int32.not_le.mp hgt))⟩
    have hnl : ¬ x1 < nI (tlA A) := Int32.not_lt.mpr hle
    rw [hA6.2.2.2.2.1]
    refine ⟨fun hne12 => ?_, fun he12 => stop 3 (by decide) (h3 hz0 hnl ((eqL (n := AR A) (m := 12) (by omega) (by decide)).mp he12))⟩
    have hr : AR A < 12 := by
      rcases Nat.lt_or_ge (AR A) 12 with h | h
      · exact h
      · exact absurd (by rw [show AR A = 12 by omega]; rfl) hne12
    unfold wp_Model_finish_58
    intro μ10 e10
    have e39b : μ10 39 0 = 0 := by rw [e10, s2_same]
    refine ⟨fun _ => ?_, fun h => absurd e39b h⟩
    have f10 : ∀ d, d ≠ 39 → μ10 d = u6 d := fun d hd => by rw [e10, s2_comp _ _ _ _ hd]
    refine pf_plan N hN (repX_same (fun d hd => f10 d (by omega)) hX6) hok.hC hok.hroom _ (fun u12 f12 hQ => ?_)
    have f12b : ∀ d, d < 24 → u12 d = u6 d := fun d hd => by rw [f12 d (by omega), f10 d (by omega)]
    have hA12 : moS A u12 := moS_same (fun d hd => f12b d (by omega)) hA6
    obtain ⟨n1, n2, n3, n4, n5, n6, n7, n8, n9⟩ := id hA12
    intro μ14 e14
    rw [n5] at e14 ⊢
    rw [nI_1] at e14
    have f14 : ∀ d, d ≠ 10 → μ14 d = u12 d := fun d hd => by rw [e14, s2_comp _ _ _ _ hd]
    refine pf_copyOffers N (by omega) hr (Os := AOs A) (fun i hi => repK_same (fun d a b => f14 d (by omega)) (n2 i hi)) _ (fun u15 q1 q2 q3 => ?_)
    refine ⟨vp_in_nI (by omega) (by decide), fun μ18 e18 => ⟨vp_in_nI (by omega) (by decide), fun μ20 e20 μ21 e21 => ?_⟩⟩
    rw [nI_clamp (by omega)] at e18 e20
    have f21 : ∀ d, d ≠ 11 → d ≠ 12 → d ≠ 13 → μ21 d = u15 d := fun d a b c => by rw [e21, s2_comp _ _ _ _ a, e20, s2_comp _ _ _ _ c, e18, s2_comp _ _ _ _ b]
    have fo21 : ∀ d, d < 2 ∨ d = 8 ∨ d = 9 ∨ 13 < d → μ21 d = u12 d := fun d hd => by rw [f21 d (by omega) (by omega) (by omega), q1 d (by omega), f14 d (by omega)]
    have loop : ∀ (n i : Nat) (w : St), i ≤ Az A → Az A - i < n → (∀ d, d < 15 ∨ 18 < d → w d = μ21 d) → (∀ d q, 15 ≤ d → d ≤ 18 → q < 10 * AR A ∨ 10 * AR A + i ≤ q → w d q = u12 d q) → (∀ j, j < i → w 15 (10 * AR A + j) = nI (Ab A j) ∧ w 16 (10 * AR A + j) = nI (AC A (Ab A j)) ∧ w 17 (10 * AR A + j) = psF (plA A) j ∧ w 18 (10 * AR A + j) = nI (psY (plA A) j)) → wp_Model_finish_124 N post n x1 (nI (tlA A)) (nI (AR A)) (nI i) w := by
      intro n
      induction n with
      | zero => intro i w _ h; omega
      | succ n ih =>
        intro i w hi hn k1 k2 k3
        rw [wp_Model_finish_124]
        have w9 : w 9 0 = nI (Az A) := by rw [k1 9 (by omega), fo21 9 (by omega)]; exact n4
        rw [w9]
        refine pk_le (Az A) i (fun hq => ?_) (fun hq => ?_)
        · intro μ23 e23
          have : i = Az A := by omega
          subst this
          have fr : ∀ d, d < 2 ∨ d = 8 ∨ d = 14 ∨ 18 < d → μ23 d = u12 d := fun d hd => by rw [e23, s2_comp _ _ _ _ (by omega), k1 d (by omega), fo21 d (by omega)]
          have fk : ∀ d, 2 ≤ d → d ≤ 7 → μ23 d = u15 d := fun d a b => by rw [e23, s2_comp _ _ _ _ (by omega), k1 d (by omega), f21 d (by omega) (by omega) (by omega)]
          have fq : ∀ d q, 15 ≤ d → d ≤ 18 → μ23 d q = w d q := fun d q a b => by rw [e23, s2_comp _ _ _ _ (by omega)]
          have f12w : μ23 12 = μ21 12 := by rw [e23, s2_comp _ _ _ _ (by decide), k1 12 (by omega)]
          have f13w : μ23 13 = μ21 13 := by rw [e23, s2_comp _ _ _ _ (by decide), k1 13 (by omega)]
          have kup : ∀ k O, k < 6 * AR A ∨ 6 * AR A + 6 ≤ k → repK u12 k O → repK μ23 k O := fun k O hk hh => by
            obtain ⟨z1, z2⟩ := q3 k hk
            exact repK_up (fun d a b => by rw [fk d a (by omega), z1 d a b, f14 d (by omega)]) (fun s hs => by rw [fk 7 (by decide) (by decide), z2 s hs, f14 7 (by decide)]) hh
          refine h0 hz0 hnl hr μ23 ?_ ⟨fun a ha => ?_, fun i hi => kup _ _ (Or.inr (by omega)) (n2 i hi), fun i hi => absurd hi (Nat.not_lt_zero i), ?_, ?_, ?_, fun r hlt => ?_, fun q a b => ?_, fun q a b => ?_⟩
          · rw [fr 39 (by omega), f12 39 (by omega)]; exact e39b
          · rw [fr 0 (by omega), fr 1 (by omega)]; exact n1 a ha
          · rw [e23, s2_same]; rfl
          · rw [e23, s2_ne _ _ _ _ (Or.inl (by decide)), k1 10 (by omega), f21 10 (by decide) (by decide) (by decide), q1 10 (by omega), e14, s2_same]; rfl
          · rw [e23, s2_ne _ _ _ _ (Or.inl (by decide)), k1 11 (by omega), e21, s2_same, e20, s2_ne _ _ _ _ (Or.inl (by decide)), e18, s2_ne _ _ _ _ (Or.inl (by decide)), q1 11 (by omega), f14 11 (by decide), n6]; rfl
          · by_cases e : r = AR A
            · subst e
              refine recS_new ?_ ?_ ?_ (fun i hi => ?_) (fun i hi => ?_)
              · rw [f12w, e21, s2_ne _ _ _ _ (Or.inl (by decide)), e20, s2_ne _ _ _ _ (Or.inl (by decide)), e18, s2_same, q1 9 (by omega), f14 9 (by decide)]; exact n4
              · rw [f13w, e21, s2_ne _ _ _ _ (Or.inl (by decide)), e20, s2_same]
              · rw [fr 14 (by omega)]; exact n9 _ (Nat.le_refl _) hr
              · obtain ⟨c1, c2, c3, c4⟩ := k3 i hi
                exact ⟨(fq 15 _ (by decide) (by decide)).trans c1, (fq 16 _ (by decide) (by decide)).trans c2, (fq 17 _ (by decide) (by decide)).trans c3, (fq 18 _ (by decide) (by decide)).trans c4, by rw [fr 19 (by omega)]; exact n8 _ (by omega) (by omega)⟩
              · exact repK_same (fun d a b => fk d a b) (q2 i hi)
            · have hlt2 : r < AR A := by have : r < AR A + 1 := hlt; omega
              have hzr : Arz A r ≤ 10 := (hok.hrec r hlt2).2.2.1
              refine recS_old (recS_up hzr ?_ ?_ ?_ (fun d q a b c c2 => ?_) (fun i hi hh => kup _ _ (Or.inl (by omega)) hh) (n7 r hlt2)) e
              · rw [f12w, e21, s2_ne _ _ _ _ (Or.inl (by decide)), e20, s2_ne _ _ _ _ (Or.inl (by decide)), e18, s2_ne _ _ _ _ (Or.inr e), q1 12 (by omega), f14 12 (by decide)]
              · rw [f13w, e21, s2_ne _ _ _ _ (Or.inl (by decide)), e20, s2_ne _ _ _ _ (Or.inr e), e18, s2_ne _ _ _ _ (Or.inl (by decide)), q1 13 (by omega), f14 13 (by decide)]
              · rw [fr 14 (by omega)]
              · by_cases e19 : d = 19
                · rw [fr d (by omega)]
                · rw [fq d q a (by omega)]; exact k2 d q a (by omega) (Or.inl (by omega))
          · rw [fr 19 (by omega)]
            exact n8 q (by have : 10 * (AR A + 1) ≤ q := a; omega) b
          · rw [fr 14 (by omega)]
            exact n9 q (by have : AR A + 1 ≤ q := a; omega) b
        · have e10 : (10 : Int32) * nI (AR A) + nI i = nI (10 * AR A + i) := by rw [show (10 : Int32) = nI 10 from rfl, pk_mul, nI_add]
          rw [e10, nI_clamp (by omega), nI_clamp (by omega), nI_1]
          have i1 : vp_in (nI i) 10 := vp_in_nI (by omega) (by decide)
          have i2 : vp_in (nI (10 * AR A + i)) 120 := vp_in_nI (by omega) (by decide)
          have v8 : w 8 i = nI (Ab A i) := by rw [k1 8 (by omega), fo21 8 (by omega)]; exact n3 i hq
          have v21 : w 21 i = nI (AC A (Ab A i)) := by rw [k1 21 (by omega), fo21 21 (by omega), f12b 21 (by omega)]; exact (hX6.2.2.2 i hq).2.2
          have v34 : w 34 i = psF (plA A) i := by rw [k1 34 (by omega), fo21 34 (by omega)]; exact (hQ.1 i hq).1
          have v36 : w 36 i = nI (psY (plA A) i) := by rw [k1 36 (by omega), fo21 36 (by omega)]; exact (hQ.1 i hq).2.2.1
          refine ⟨i1, i2, fun μ26 e26 => ⟨i1, i2, fun μ29 e29 => ⟨i1, i2, fun μ32 e32 => ⟨i1, i2, fun μ35 e35 => ?_⟩⟩⟩⟩
          have t29 : μ26 21 i = nI (AC A (Ab A i)) := by rw [e26, s2_ne _ _ _ _ (Or.inl (by decide))]; exact v21
          have t32 : μ29 34 i = psF (plA A) i := by rw [e29, s2_ne _ _ _ _ (Or.inl (by decide)), e26, s2_ne _ _ _ _ (Or.inl (by decide))]; exact v34
          have t35 : μ32 36 i = nI (psY (plA A) i) := by rw [e32, s2_ne _ _ _ _ (Or.inl (by decide)), e29, s2_ne _ _ _ _ (Or.inl (by decide)), e26, s2_ne _ _ _ _ (Or.inl (by decide))]; exact v36
          rw [v8] at e26
          rw [t29] at e29
          rw [t32] at e32
          rw [t35] at e35
          have oth9 : ∀ d q, (d < 15 ∨ 18 < d) ∨ q ≠ 10 * AR A + i → μ35 d q = w d q := by
            intro d q h
            have hh : ∀ x, 15 ≤ x → x ≤ 18 → d ≠ x ∨ q ≠ 10 * AR A + i := fun x a b => by omega
            rw [e35, s2_ne _ _ _ _ (hh 18 (by omega) (by omega)), e32, s2_ne _ _ _ _ (hh 17 (by omega) (by omega)), e29, s2_ne _ _ _ _ (hh 16 (by omega) (by omega)), e26, s2_ne _ _ _ _ (hh 15 (by omega) (by omega))]
          refine ih (i + 1) μ35 (by omega) (by omega) (fun d hd => ?_) (fun d q a b c => ?_) (fun j hj => ?_)
          · rw [← k1 d hd]
            funext q
            exact oth9 d q (Or.inl hd)
          · rw [oth9 d q (Or.inr (by omega))]
            exact k2 d q a b (by omega)
          · by_cases e : j = i
            · subst e
              refine ⟨?_, ?_, ?_, ?_⟩
              · rw [e35, s2_ne _ _ _ _ (Or.inl (by decide)), e32, s2_ne _ _ _ _ (Or.inl (by decide)), e29, s2_ne _ _ _ _ (Or.inl (by decide)), e26, s2_same]
              · rw [e35, s2_ne _ _ _ _ (Or.inl (by decide)), e32, s2_ne _ _ _ _ (Or.inl (by decide)), e29, s2_same]
              · rw [e35, s2_ne _ _ _ _ (Or.inl (by decide)), e32, s2_same]
              · rw [e35, s2_same]
            · rw [oth9 15 _ (Or.inr (by omega)), oth9 16 _ (Or.inr (by omega)), oth9 17 _ (Or.inr (by omega)), oth9 18 _ (Or.inr (by omega))]
              exact k3 j (by omega)
    exact loop N 0 μ21 (by omega) (by omega) (fun _ _ => rfl) (fun d q a b _ => by rw [fo21 d (by omega)]) (fun j hj => by omega)
  · have hz0 : Az A = 0 := (eqL (n := Az A) (m := 0) (by omega) (by decide)).mp he
    unfold wp_Model_finish_13
    intro μ2 e2
    have e39 : μ2 39 0 = 1 := by rw [e2, s2_same]
    rw [e39]
    exact ⟨fun h => absurd h (by decide), fun _ => h1 hz0 0 μ2 e39 (moS_same (fun d hd => by rw [e2, s2_comp _ _ _ _ (by omega)]) hA)⟩
