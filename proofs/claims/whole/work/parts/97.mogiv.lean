/-! giveBack: the reference answers as the state says -/
theorem moT_giv {A : AS} {μ : St} (hok : okS A) (hA : moS A μ) (N : Nat) (hN : 100001 ≤ N) (x1 x2 : Int32) (post : Int32 → St → Prop)
    (h1 : (¬ ∃ r i, r < AR A ∧ i < Arz A r ∧ x1 = nI r ∧ x2 = nI i) → ∀ v u, u 39 0 = 1 → moS A u → post v u)
    (h2 : ∀ r i, r < AR A → i < Arz A r → x1 = nI r → x2 = nI i → Ark A r i = false → ∀ v u, u 39 0 = 2 → moS A u → post v u)
    (h0 : ∀ r i, r < AR A → i < Arz A r → x1 = nI r → x2 = nI i → Ark A r i = true → ∀ u, u 39 0 = 0 → moS (aGiv A r i) u → post (nI (gvN A r i - Arr A r)) u) : wp_Model_giveBack N μ x1 x2 post := by
  have stop : ∀ y : Int32, ¬ y = 0 → (∀ v u, u 39 0 = y → moS A u → post v u) → wp_Model_giveBack_33 N post x1 x2 y μ := by
    intro y hy hk
    unfold wp_Model_giveBack_33
    intro μ5 e5
    have e39 : μ5 39 0 = y := by rw [e5, s2_same]
    rw [e39]
    exact ⟨fun h => absurd h hy, fun _ => hk 0 μ5 e39 (moS_same (fun d hd => by rw [e5, s2_comp _ _ _ _ (by omega)]) hA)⟩
  have hR := hok.hR
  unfold wp_Model_giveBack
  refine pf_isLine N hok hA x1 x2 _ (fun r i hr hi e1 e2 => ⟨fun _ => ?_, fun h => absurd h (by decide)⟩) (fun hn => ⟨fun h => absurd rfl h, fun _ => stop 1 (by decide) (h1 hn)⟩)
  have hokr := hok.hrec r hr
  obtain ⟨o1, o2, o3, o4, o5, o6, o7, o8⟩ := id hokr
  subst e1 e2
  have e10 : ∀ j, (10 : Int32) * nI r + nI j = nI (10 * r + j) := fun j => by rw [show (10 : Int32) = nI 10 from rfl, pk_mul, nI_add]
  have hin : vp_in (nI (10 * r + i)) 120 := vp_in_nI (by omega) (by decide)
  have hin12 : vp_in (nI r) 12 := vp_in_nI (by omega) (by decide)
  obtain ⟨m1, m2, m3, m4, m5, m6, m7, m8, m9⟩ := id hA
  have c19 := ((m7 r hr).2.2.2.1 i hi).2.2.2.2
  rw [e10, nI_clamp (by omega), c19]
  refine ⟨hin, fun he => ?_, fun hne => stop 2 (by decide) (h2 r i hr hi rfl rfl ?_)⟩
  · have hki : Ark A r i = true := by
      cases e : Ark A r i with
      | true => rfl
      | false => rw [e] at he; exact absurd he (by decide)
    unfold wp_Model_giveBack_33
    rw [e10, nI_clamp (by omega)]
    intro μ6 e6
    have e39 : μ6 39 0 = 0 := by rw [e6, s2_same]
    refine ⟨fun _ => ⟨hin, fun μ9 e9 μ10 e10b μ11 e11 => ?_⟩, fun h => absurd e39 h⟩
    have f11 : ∀ d, d ≠ 19 → d ≠ 22 → d ≠ 23 → d ≠ 39 → μ11 d = μ d := fun d a b c cc => by rw [e11, s2_comp _ _ _ _ b, e10b, s2_comp _ _ _ _ c, e9, s2_comp _ _ _ _ a, e6, s2_comp _ _ _ _ cc]
    have f19 : ∀ q, q ≠ 10 * r + i → μ11 19 q = μ 19 q := fun q hq => by rw [e11, s2_ne _ _ _ _ (Or.inl (by decide)), e10b, s2_ne _ _ _ _ (Or.inl (by decide)), e9, s2_ne _ _ _ _ (Or.inr hq), e6, s2_ne _ _ _ _ (Or.inl (by decide))]
    have g19 : μ11 19 (10 * r + i) = 1 := by rw [e11, s2_ne _ _ _ _ (Or.inl (by decide)), e10b, s2_ne _ _ _ _ (Or.inl (by decide)), e9, s2_same]; rfl
    have g23 : μ11 23 0 = nI r := by rw [e11, s2_ne _ _ _ _ (Or.inl (by decide)), e10b, s2_same]
    have g22 : μ11 22 0 = nI 0 := by rw [e11, s2_same]; rfl
    have g39 : μ11 39 0 = 0 := by rw [e11, s2_ne _ _ _ _ (Or.inl (by decide)), e10b, s2_ne _ _ _ _ (Or.inl (by decide)), e9, s2_ne _ _ _ _ (Or.inl (by decide))]; exact e39
    have k19 : ∀ j, j < Arz A r → μ11 19 (10 * r + j) = bI (!gvK A r i j) := by
      intro j hj
      by_cases e : j = i
      · subst e; rw [g19, show gvK A r j j = false from gup_same ..]; rfl
      · rw [f19 _ (by omega), show gvK A r i j = Ark A r j from gup_ne _ _ e]; exact ((m7 r hr).2.2.2.1 j hj).2.2.2.2
    have fin : ∀ (u : St), (∀ d, d < 20 → u d = μ11 d) → u 39 0 = 0 → ∀ y : Int32, nI (Arr A r) + y = nI (gvN A r i) → y = nI (gvN A r i - Arr A r) → wp_Model_giveBack_183 N post (nI r) y u := by
      intro u fu u39 y ey ey2
      unfold wp_Model_giveBack_183
      rw [nI_clamp (by omega)]
      refine ⟨hin12, hin12, fun μ31 e31 μ32 e32 => ?_⟩
      have w14 : u 14 r = nI (Arr A r) := by rw [fu 14 (by omega), f11 14 (by decide) (by decide) (by decide) (by decide)]; exact (m7 r hr).2.2.1
      rw [w14, ey] at e31
      have fr : ∀ d, d < 19 → d ≠ 11 → d ≠ 14 → μ32 d = μ d := fun d a b c => by rw [e32, s2_comp _ _ _ _ b, e31, s2_comp _ _ _ _ c, fu d (by omega), f11 d (by omega) (by omega) (by omega) (by omega)]
      have fr19 : μ32 19 = μ11 19 := by rw [e32, s2_comp _ _ _ _ (by decide), e31, s2_comp _ _ _ _ (by decide), fu 19 (by omega)]
      have fr14 : ∀ q, q ≠ r → μ32 14 q = μ 14 q := fun q hq => by rw [e32, s2_ne _ _ _ _ (Or.inl (by decide)), e31, s2_ne _ _ _ _ (Or.inr hq), fu 14 (by omega), f11 14 (by decide) (by decide) (by decide) (by decide)]
      have g14 : μ32 14 r = nI (gvN A r i) := by rw [e32, s2_ne _ _ _ _ (Or.inl (by decide)), e31, s2_same]
      have kup : ∀ k O, repK μ k O → repK μ32 k O := fun k O hh => repK_same (fun d a b => fr d (by omega) (by omega) (by omega)) hh
      rw [ey2]
      refine h0 r i hr hi rfl rfl hki μ32 ?_ ⟨fun a ha => ?_, fun j hj => kup _ _ (m2 j hj), fun j hj => ?_, ?_, ?_, ?_, fun q hq => ?_, fun q a b => ?_, fun q a b => ?_⟩
      · rw [e32, s2_ne _ _ _ _ (Or.inl (by decide)), e31, s2_ne _ _ _ _ (Or.inl (by decide))]; exact u39
      · rw [fr 0 (by decide) (by decide) (by decide), fr 1 (by decide) (by decide) (by decide)]; exact m1 a ha
      · rw [fr 8 (by decide) (by decide) (by decide)]; exact m3 j hj
      · rw [fr 9 (by decide) (by decide) (by decide)]; exact m4
      · rw [fr 10 (by decide) (by decide) (by decide)]; exact m5
      · rw [e32, s2_same, e31, s2_ne _ _ _ _ (Or.inl (by decide)), fu 11 (by omega), f11 11 (by decide) (by decide) (by decide) (by decide), m6, ey2]; rfl
      · obtain ⟨b1, b2, b3, b4, b5⟩ := m7 q hq
        have hzq : Arz A q ≤ 10 := (hok.hrec q hq).2.2.1
        by_cases e : q = r
        · subst e
          unfold recS Arb Arz ArC ArO Arf Ary Ark Arp Arr aGiv
          dsimp only
          rw [gup_same, gup_same]
          refine ⟨?_, ?_, g14, fun j hj => ?_, fun j hj => kup _ _ (b5 j hj)⟩
          · rw [fr 12 (by decide) (by decide) (by decide)]; exact b1
          · rw [fr 13 (by decide) (by decide) (by decide)]; exact b2
          · obtain ⟨d1, d2, d3, d4, d5⟩ := b4 j hj
            rw [fr 15 (by decide) (by decide) (by decide), fr 16 (by decide) (by decide) (by decide), fr 17 (by decide) (by decide) (by decide), fr 18 (by decide) (by decide) (by decide), fr19]
            exact ⟨d1, d2, d3, d4, k19 j hj⟩
        · unfold recS Arb Arz ArC ArO Arf Ary Ark Arp Arr aGiv
          dsimp only
          rw [gup_ne _ _ e, gup_ne _ _ e]
          refine ⟨?_, ?_, ?_, fun j hj => ?_, fun j hj => kup _ _ (b5 j hj)⟩
          · rw [fr 12 (by decide) (by decide) (by decide)]; exact b1
          · rw [fr 13 (by decide) (by decide) (by decide)]; exact b2
          · rw [fr14 q e]; exact b3
          · have hj2 : j < Arz A q := hj
            obtain ⟨d1, d2, d3, d4, d5⟩ := b4 j hj2
            rw [fr 15 (by decide) (by decide) (by decide), fr 16 (by decide) (by decide) (by decide), fr 17 (by decide) (by decide) (by decide), fr 18 (by decide) (by decide) (by decide), fr19, f19 _ (by omega)]
            exact ⟨d1, d2, d3, d4, d5⟩
      · have a2 : 10 * AR A ≤ q := a
        rw [fr19, f19 _ (by omega)]; exact m8 q a2 b
      · have a2 : AR A ≤ q := a
        rw [fr14 q (by omega)]; exact m9 q a2 b
    have loop : ∀ (n j : Nat) (w : St), j ≤ Arz A r → Arz A r - j < n → (∀ d, d < 20 ∨ 22 < d → w d = μ11 d) → w 22 0 = nI (kc (gvK A r i) j) → (∀ t, t < kc (gvK A r i) j → w 20 t = nI (kB (gvK A r i) (Arb A r) j t) ∧ w 21 t = nI (ArC A r (kB (gvK A r i) (Arb A r) j t))) → wp_Model_giveBack_69 N post n (nI r) (nI j) w := by
      intro n
      induction n with
      | zero => intro j w _ h; omega
      | succ n ih =>
        intro j w hj hn k1 k2 k3
        have w12 : w 12 r = nI (Arz A r) := by rw [k1 12 (by omega), f11 12 (by decide) (by decide) (by decide) (by decide)]; exact (m7 r hr).1
        have hkc := kc_le (gvK A r i) j
        rw [wp_Model_giveBack_69, nI_clamp (by omega), w12]
        refine ⟨hin12, pk_le (Arz A r) j (fun hq => ⟨hin12, ?_⟩) (fun hq => ?_)⟩
        · have : j = Arz A r := by omega
          subst this
          have hX : repX w r (ArO A r) (ArC A r) (kB (gvK A r i) (Arb A r) (Arz A r)) (kc (gvK A r i) (Arz A r)) :=
            ⟨⟨by omega, by rw [k1 23 (by omega)]; exact g23, fun t ht => repK_same (fun d a b => by rw [k1 d (by omega), f11 d (by omega) (by omega) (by omega) (by omega)]) ((m7 r hr).2.2.2.2 t ht)⟩, k2, by omega, fun t ht => ⟨(k3 t ht).1, kB_lt _ o4 t ht, (k3 t ht).2⟩⟩
          refine pf_Mleast N hN hX o2 (kB_room _ o5) _ (fun u fu => ⟨hin12, ?_⟩)
          have w13 : w 13 r = nI (Arp A r) := by rw [k1 13 (by omega), f11 13 (by decide) (by decide) (by decide) (by decide)]; exact (m7 r hr).2.1
          have u14 : u 14 r = nI (Arr A r) := by rw [fu 14 (by omega), k1 14 (by omega), f11 14 (by decide) (by decide) (by decide) (by decide)]; exact (m7 r hr).2.2.1
          have fu2 : ∀ d, d < 20 → u d = μ11 d := fun d hd => by rw [fu d (by omega), k1 d (by omega)]
          have u39 : u 39 0 = 0 := by rw [fu 39 (by omega), k1 39 (by omega)]; exact g39
          have ht := gvT_le hokr i
          rw [w13, u14]
          have hmx : Arr A r ≤ gvN A r i := Nat.le_max_left _ _
          rcases rf_le (R := Arr A r) (p := Arp A r) (t := gvT A r i) (by omega) (by omega) (by omega) with ⟨q1, q2⟩ | ⟨q1, q2⟩
          · refine ⟨fun _ => fin u fu2 u39 0 ?_ ?_, fun h => absurd q1 h⟩
            · rw [show gvN A r i = Arr A r from q2]
              exact nI_add (Arr A r) 0
            · rw [show gvN A r i = Arr A r from q2, Nat.sub_self]; rfl
          · refine ⟨fun h => absurd h q1, fun _ => ⟨hin12, fin u fu2 u39 _ ?_ q2⟩⟩
            rw [q2, nI_add, show Arr A r + (max (Arr A r) (Arp A r - gvT A r i) - Arr A r) = gvN A r i from Nat.add_sub_cancel' hmx]
        · unfold wp_Model_giveBack_143
          have i120 : vp_in (nI (10 * r + j)) 120 := vp_in_nI (by omega) (by decide)
          rw [e10, nI_clamp (by omega), show w 19 (10 * r + j) = bI (!gvK A r i j) by rw [k1 19 (by omega)]; exact k19 j hq, nI_1]
          refine ⟨i120, fun hn0 => ?_, fun h00 => ?_⟩
          · cases e : gvK A r i j with
            | true => rw [e] at hn0; exact absurd rfl hn0
            | false => exact ih (j + 1) w (by omega) (by omega) k1 (by rw [kc_f e]; exact k2) (by rw [kc_f e, kB_f e]; exact k3)
          · cases e : gvK A r i j with
            | false => rw [e] at h00; exact absurd h00 (by decide)
            | true =>
              obtain ⟨d1, d2, d3, d4, d5⟩ := (m7 r hr).2.2.2.1 j hq
              have w15 : w 15 (10 * r + j) = nI (Arb A r j) := by rw [k1 15 (by omega), f11 15 (by decide) (by decide) (by decide) (by decide)]; exact d1
              have w16 : w 16 (10 * r + j) = nI (ArC A r (Arb A r j)) := by rw [k1 16 (by omega), f11 16 (by decide) (by decide) (by decide) (by decide)]; exact d2
              have i10 : vp_in (nI (kc (gvK A r i) j)) 10 := vp_in_nI (by omega) (by decide)
              rw [k2, nI_clamp (n := kc (gvK A r i) j) (by omega)]
              refine ⟨i120, i10, fun μ24 e24 => ⟨i120, ?_⟩⟩
              have v22 : μ24 22 0 = nI (kc (gvK A r i) j) := by rw [e24, s2_ne _ _ _ _ (Or.inl (by decide))]; exact k2
              have v16 : μ24 16 (10 * r + j) = nI (ArC A r (Arb A r j)) := by rw [e24, s2_ne _ _ _ _ (Or.inl (by decide))]; exact w16
              rw [v22, nI_clamp (n := kc (gvK A r i) j) (by omega)]
              refine ⟨i10, fun μ27 e27 μ28 e28 => ?_⟩
              have v27 : μ27 22 0 = nI (kc (gvK A r i) j) := by rw [e27, s2_ne _ _ _ _ (Or.inl (by decide))]; exact v22
              rw [w15] at e24
              rw [v16] at e27
              rw [v27, nI_1] at e28
              refine ih (j + 1) μ28 (by omega) (by omega) (fun d hd => ?_) (by rw [kc_t e, e28, s2_same]) (fun t ht => ?_)
              · rw [e28, s2_comp _ _ _ _ (by omega), e27, s2_comp _ _ _ _ (by omega), e24, s2_comp _ _ _ _ (by omega)]; exact k1 d hd
              · rw [kc_t e] at ht
                rw [kB_t e]
                by_cases et : t = kc (gvK A r i) j
                · rw [et, fup_same]
                  refine ⟨?_, ?_⟩
                  · rw [e28, s2_ne _ _ _ _ (Or.inl (by decide)), e27, s2_ne _ _ _ _ (Or.inl (by decide)), e24, s2_same]
                  · rw [e28, s2_ne _ _ _ _ (Or.inl (by decide)), e27, s2_same]
                · rw [fup_ne _ _ et, e28, s2_ne _ _ _ _ (Or.inl (by decide)), s2_ne _ _ _ _ (Or.inl (by decide)), e27, s2_ne _ _ _ _ (Or.inl (by decide)), s2_ne _ _ _ _ (Or.inr et), e24, s2_ne _ _ _ _ (Or.inr et), s2_ne _ _ _ _ (Or.inl (by decide))]
                  exact k3 t (by omega)
    exact loop N 0 μ11 (by omega) (by omega) (fun _ _ => rfl) g22 (fun t ht => absurd ht (Nat.not_lt_zero t))
  · cases e : Ark A r i with
    | true => rw [e] at hne; exact absurd rfl hne
    | false => rfl
