/-! tryOffer -/
def flp (v : Nat) : Nat := 1 - v
theorem clT_try {A : AS} {θ β τ : St} {ω : Nat → St} {π : St} (κ υ : St) (ο : Nat → Int64) (hok : okS A) (hA : clS A θ β τ ω π) (N : Nat) (hN : 100001 ≤ N) {st : Nat} (hS : repS υ st) (hst : st + 6 < 2 ^ 30) (x1 : Int32) (post : Int32 → ((Nat → St) × St × St × (Nat → Int64)) → Prop)
    (h1 : ¬ rg 0 6 x1 → post 1 (ω, κ, υ, ο))
    (h2 : ∀ i, i < 6 → x1 = nI i → 3000 < str (tp (oup (AOs A) i (upR (AOs A i) (flp (AOs A i 4)))) (nB (Ab A)) (Az A)) 18 → ∀ ω2 κ2, clS A θ β τ ω2 π → post 2 (ω2, κ2, υ, ο))
    (h0 : ∀ i, i < 6 → x1 = nI i → str (tp (oup (AOs A) i (upR (AOs A i) (flp (AOs A i 4)))) (nB (Ab A)) (Az A)) 18 ≤ 3000 → ∀ ω2 κ2 υ2 ο2 st2, st2 ≤ st + 6 → repS υ2 st2 → clS A θ β τ ω2 π → ο2 0 = Int32.toInt64 (nI (TL (oup (AOs A) i (upR (AOs A i) (flp (AOs A i 4)))) (AC A) (Ab A) (Az A))) → post 0 (ω2, κ2, υ2, ο2)) : wp_Law_tryOffer N θ β τ ω κ υ ο x1 post := by
  obtain ⟨a1, a2, a3, a4, a5⟩ := id hA
  have hz := a2.1
  unfold wp_Law_tryOffer wp_Till_tryOffer
  refine pf_reqOff N _ _ (fun i hi e1 => ?_) (fun hn => Or.inl ⟨rfl, h1 hn⟩)
  subst e1
  have hin : vp_in (nI i) 6 := vp_in_nI hi (by decide)
  obtain ⟨o1, o2, o3⟩ := id (a4 i hi)
  have hb4 := o3.2.2.2.2.2.1
  have hfl : flp (AOs A i 4) ≤ 1 := by unfold flp; omega
  have hO2 := ok_upR o3 hfl
  have hOs : ∀ j, j < 6 → okO (oup (AOs A) i (upR (AOs A i) (flp (AOs A i 4))) j) := fun j hj => by
    unfold oup
    split
    · exact hO2
    · exact hok.hO j hj
  have h31 := str_31 (f := nB (Ab A)) (z := Az A) hOs hz
  -- the offer is turned
  have main : ∀ y : Int32, y = nI (flp (AOs A i 4)) → wp_Till_tryOffer_27 N θ β τ (nI i) (fun r2 u1 => (vp_in 0 1 ∧ (∀ ο4, ο4 = vp_updL ο (Int32.toNatClampNeg 0) (Int32.toInt64 r2) → post 0 (u1.1, u1.2.1, u1.2.2, ο4)))) (fun E u1 => (E = eIA ∧ post 1 (u1.1, u1.2.1, u1.2.2, ο)) ∨ (E = eUO ∧ post 2 (u1.1, u1.2.1, u1.2.2, ο))) y ω κ υ := by
    intro y ey
    unfold wp_Till_tryOffer_27
    rw [nI_clamp (by omega)]
    refine ⟨hin, nar_ok (by rw [ey]; rcases (show flp (AOs A i 4) = 0 ∨ flp (AOs A i 4) = 1 by omega) with h | h <;> rw [h]; exact Or.inl rfl; exact Or.inr rfl), fun ω6 e6 => ?_⟩
    have hW6 : repW ω6 (oup (AOs A) i (upR (AOs A i) (flp (AOs A i 4)))) := by
      intro j hj
      by_cases e : j = i
      · subst e
        rw [oup_same, e6, up_same]
        refine ⟨fun q hq => ?_, fun q hq => ?_, hO2⟩
        · unfold upR
          by_cases e4 : q = 4
          · subst e4; rw [s2_same, if_pos rfl, ey]
          · rw [s2_comp _ _ _ _ e4, if_neg e4]; exact o1 q hq
        · rw [s2_comp _ _ _ _ (by decide), o2 q hq]
          unfold upR
          rw [if_neg (by omega)]
      · rw [oup_ne _ _ e, e6, up_ne _ _ e]; exact a4 j hj
    have e64 : ω6 i 4 0 = nI (flp (AOs A i 4)) := by rw [e6, up_same, s2_same, ey]
    -- turned back
    have back : ∀ (x3 v : Int32) (κ2 υ2 : St), (∀ ω2, clS A θ β τ ω2 π → ((¬ x3 = 0 → (vp_in 0 1 ∧ (∀ ο4, ο4 = vp_updL ο (Int32.toNatClampNeg 0) (Int32.toInt64 v) → post 0 (ω2, κ2, υ2, ο4)))) ∧ (x3 = 0 → post 2 (ω2, κ2, υ2, ο)))) → wp_Till_tryOffer_80 N θ β τ (nI i) (fun r2 u1 => (vp_in 0 1 ∧ (∀ ο4, ο4 = vp_updL ο (Int32.toNatClampNeg 0) (Int32.toInt64 r2) → post 0 (u1.1, u1.2.1, u1.2.2, ο4)))) (fun E u1 => (E = eIA ∧ post 1 (u1.1, u1.2.1, u1.2.2, ο)) ∨ (E = eUO ∧ post 2 (u1.1, u1.2.1, u1.2.2, ο))) x3 v ω6 κ2 υ2 := by
      intro x3 v κ2 υ2 hk
      have last : ∀ y2 : Int32, y2 = nI (AOs A i 4) → wp_Till_tryOffer_95 N θ β τ (nI i) (fun r2 u1 => (vp_in 0 1 ∧ (∀ ο4, ο4 = vp_updL ο (Int32.toNatClampNeg 0) (Int32.toInt64 r2) → post 0 (u1.1, u1.2.1, u1.2.2, ο4)))) (fun E u1 => (E = eIA ∧ post 1 (u1.1, u1.2.1, u1.2.2, ο)) ∨ (E = eUO ∧ post 2 (u1.1, u1.2.1, u1.2.2, ο))) x3 v y2 ω6 κ2 υ2 := by
        intro y2 ey2
        unfold wp_Till_tryOffer_95
        rw [nI_clamp (by omega)]
        refine ⟨hin, nar_ok (by rw [ey2]; rcases (show AOs A i 4 = 0 ∨ AOs A i 4 = 1 by omega) with h | h <;> rw [h]; exact Or.inl rfl; exact Or.inr rfl), fun ω15 e15 => ?_⟩
        have hcl : clS A θ β τ ω15 π := by
          refine ⟨a1, a2, a3, fun j hj => ?_, a5⟩
          by_cases e : j = i
          · subst e
            rw [e15, up_same, e6, up_same]
            refine ⟨fun q hq => ?_, fun q hq => ?_, o3⟩
            · by_cases e4 : q = 4
              · subst e4; rw [s2_same, ey2]
              · rw [s2_comp _ _ _ _ e4, s2_comp _ _ _ _ e4]; exact o1 q hq
            · rw [s2_comp _ _ _ _ (by decide), s2_comp _ _ _ _ (by decide)]; exact o2 q hq
          · rw [e15, up_ne _ _ e, e6, up_ne _ _ e]; exact a4 j hj
        obtain ⟨g1, g2⟩ := hk ω15 hcl
        exact ⟨g1, fun h => Or.inr ⟨rfl, g2 h⟩⟩
      unfold wp_Till_tryOffer_80
      rw [nI_clamp (by omega), e64]
      refine ⟨hin, fun hne => last 0 ?_, fun heq => last 1 ?_⟩
      · rcases (show AOs A i 4 = 0 ∨ AOs A i 4 = 1 by omega) with h | h
        · rw [h]; rfl
        · exact absurd (by rw [h]; rfl) hne
      · have := (eqL (n := flp (AOs A i 4)) (m := 0) (by omega) (by decide)).mp heq
        unfold flp at this
        rw [show AOs A i 4 = 1 by omega]; rfl
    refine pf_roomB N (by omega) κ υ τ hW6 a2 _ (fun κ7 => pk_lt 3000 (str (tp (oup (AOs A) i (upR (AOs A i) (flp (AOs A i 4)))) (nB (Ab A)) (Az A)) 18) (fun hr => ?_) (fun hr => ?_))
    · unfold wp_Till_tryOffer_56
      refine ⟨hin, fun _ => back 0 0 κ7 υ (fun ω2 hcl => ⟨fun h => absurd rfl h, fun _ => h2 i hi rfl hr ω2 κ7 hcl⟩), fun h => absurd rfl h⟩
    · unfold wp_Till_tryOffer_56
      have hr2 : str (tN (oup (AOs A) i (upR (AOs A i) (flp (AOs A i 4)))) (Ab A) (Az A)) 18 ≤ 3000 := by
        by_cases h0z : Az A = 0
        · rw [h0z]; exact room_0 _ _
        · rw [tN_tp (by omega)]; exact hr
      refine ⟨hin, fun h => absurd h (by decide), fun _ => ?_⟩
      refine pf_Pleast N hN hW6 (fun a ha => (a3 a ha).1) hok.hC hz a2.2.1 a2.2.2 hr2 hS hst _ (fun κ2 υ2 st2 g1 g2 => ?_)
      refine back 1 _ κ2 υ2 (fun ω2 hcl => ⟨fun _ => ⟨vp_in_nI (n := 0) (by decide) (by decide), fun ο4 e4 => h0 i hi rfl hr ω2 κ2 υ2 ο4 st2 g1 g2 hcl ?_⟩, fun h => absurd h (by decide)⟩)
      rw [e4]
      exact upL_same ..
  rw [nI_clamp (by omega), o1 4 (by omega)]
  refine ⟨hin, fun hne => main 0 ?_, fun heq => main 1 ?_⟩
  · rcases (show AOs A i 4 = 0 ∨ AOs A i 4 = 1 by omega) with h | h
    · exact absurd (by rw [h]; rfl) hne
    · unfold flp; rw [h]; rfl
  · have := (eqL (n := AOs A i 4) (m := 0) (by omega) (by decide)).mp heq
    unfold flp; rw [this]; rfl
theorem moT_try {A : AS} {μ : St} (hok : okS A) (hA : moS A μ) (N : Nat) (hN : 100001 ≤ N) (x1 : Int32) (post : Int32 → St → Prop)
    (h1 : ¬ rg 0 6 x1 → ∀ v u, u 39 0 = 1 → moS A u → post v u)
    (h2 : ∀ i, i < 6 → x1 = nI i → 3000 < str (tp (oup (AOs A) i (upR (AOs A i) (flp (AOs A i 4)))) (nB (Ab A)) (Az A)) 18 → ∀ v u, u 39 0 = 2 → moS A u → post v u)
    (h0 : ∀ i, i < 6 → x1 = nI i → str (tp (oup (AOs A) i (upR (AOs A i) (flp (AOs A i 4)))) (nB (Ab A)) (Az A)) 18 ≤ 3000 → ∀ u, u 39 0 = 0 → moS A u → post (nI (TL (oup (AOs A) i (upR (AOs A i) (flp (AOs A i 4)))) (AC A) (Ab A) (Az A))) u) : wp_Model_tryOffer N μ x1 post := by
  have hz := hok.hz
  unfold wp_Model_tryOffer wp_Model_tryOffer_15
  refine pf_Mw N (lo := 0) (n := 6) (by decide) (by decide) (by decide) _ (fun i _ hi e1 => ⟨fun h => absurd h (by decide), fun _ => fun μ4 e4 => ?_⟩) (fun hn => ⟨fun _ => fun μ4 e4 => ?_, fun h => absurd rfl h⟩)
  · subst e1
    have e39 : μ4 39 0 = 0 := by rw [e4, s2_same]
    have hA4 : moS A μ4 := moS_same (fun d hd => by rw [e4, s2_comp _ _ _ _ (by omega)]) hA
    obtain ⟨k1, k2, k3, k4, k5, k6, k7⟩ := hA4.2.1 i hi
    have hb4 := k7.2.2.2.2.2.1
    have hfl : flp (AOs A i 4) ≤ 1 := by unfold flp; omega
    have hO2 := ok_upR k7 hfl
    have hin : vp_in (nI (72 + i)) 78 := vp_in_nI (by omega) (by decide)
    rw [e39, i72, nI_clamp (by omega), k5]
    have main : ∀ y : Int32, y = nI (flp (AOs A i 4)) → wp_Model_tryOffer_51 N post (nI (72 + i)) y (nI (72 + i)) μ4 := by
      intro y ey
      unfold wp_Model_tryOffer_51
      rw [nI_clamp (by omega), ey, nar_v hfl]
      refine ⟨hin, fun μ9 e9 => ?_⟩
      have fr9 : ∀ d, d ≠ 6 → μ9 d = μ4 d := fun d d6 => by rw [e9, s2_comp _ _ _ _ d6]
      have hA9 : moS (aOff A i (upR (AOs A i) (flp (AOs A i 4)))) μ9 := by
        refine mo_aOff hok hA4 ⟨by rw [fr9 2 (by decide)]; exact k1, by rw [fr9 3 (by decide)]; exact k2, by rw [fr9 4 (by decide)]; exact k3, by rw [fr9 5 (by decide)]; exact k4, by rw [e9, s2_same]; rfl, fun s hs => ?_, hO2⟩ (fun d hd hnd => fr9 d (by omega)) (fun d d1 d2 q hq => ?_) (fun q hq => by rw [fr9 7 (by decide)])
        · rw [fr9 7 (by decide), k6 s hs]
          unfold upR
          rw [if_neg (by omega)]
        · rw [e9, s2_ne _ _ _ _ (Or.inr hq)]
      refine pf_takeB N (by omega) (A := aOff A i (upR (AOs A i) (flp (AOs A i 4)))) hz hok.hb hA9 _ (fun u10 f10 hX10 => ?_)
      have hX10' : repX u10 12 (oup (AOs A) i (upR (AOs A i) (flp (AOs A i 4)))) (AC A) (Ab A) (Az A) := hX10
      -- turned back
      have back : ∀ (v : Int32) (w : St), (∀ d, d < 20 → w d = μ9 d) → (∀ u, u 39 0 = w 39 0 → moS A u → post v u) → wp_Model_tryOffer_87 N post (nI (72 + i)) v w := by
        intro v w wf hk
        have w6 : w 6 (72 + i) = nI (flp (AOs A i 4)) := by rw [wf 6 (by omega), e9, s2_same]
        have last : ∀ y2 : Int32, y2 = nI (AOs A i 4) → wp_Model_tryOffer_107 N post v y2 (nI (72 + i)) w := by
          intro y2 ey2
          unfold wp_Model_tryOffer_107
          rw [nI_clamp (by omega), ey2, nar_v hb4]
          refine ⟨hin, fun μ22 e22 => hk μ22 (by rw [e22, s2_comp _ _ _ _ (by decide)]) (moS_same (fun d hd => ?_) hA4)⟩
          by_cases e6 : d = 6
          · subst e6
            rw [e22]
            funext q
            by_cases eq : q = 72 + i
            · subst eq; rw [s2_same, k5]
            · rw [s2_ne _ _ _ _ (Or.inr eq), wf 6 (by omega), e9, s2_ne _ _ _ _ (Or.inr eq)]
          · rw [e22, s2_comp _ _ _ _ e6, wf d hd, fr9 d e6]
        unfold wp_Model_tryOffer_87
        rw [nI_clamp (by omega), w6]
        refine ⟨hin, fun hne => last 0 ?_, fun heq => last 1 ?_⟩
        · rcases (show AOs A i 4 = 0 ∨ AOs A i 4 = 1 by omega) with h | h
          · rw [h]; rfl
          · exact absurd (by rw [h]; rfl) hne
        · have := (eqL (n := flp (AOs A i 4)) (m := 0) (by omega) (by decide)).mp heq
          unfold flp at this
          rw [show AOs A i 4 = 1 by omega]; rfl
      refine pf_Mfits N (by omega) hX10' _ (fun hr => ⟨fun h => absurd h (by decide), fun _ => ?_⟩) (fun hr => ⟨fun _ => ?_, fun h => absurd rfl h⟩)
      · unfold wp_Model_tryOffer_69
        intro μ15 e15
        have e1539 : μ15 39 0 = 0 := by rw [e15, s2_same]
        have hX15 : repX μ15 12 (oup (AOs A) i (upR (AOs A i) (flp (AOs A i 4)))) (AC A) (Ab A) (Az A) := repX_same (fun d hd => by rw [e15, s2_comp _ _ _ _ (by omega)]) hX10'
        have hr2 : str (tN (oup (AOs A) i (upR (AOs A i) (flp (AOs A i 4)))) (Ab A) (Az A)) 18 ≤ 3000 := by
          by_cases h0z : Az A = 0
          · rw [h0z]; exact room_0 _ _
          · rw [tN_tp (by omega)]; exact hr
        rw [e1539]
        refine ⟨fun h => absurd rfl h, fun _ => pf_Mleast N hN hX15 hok.hC hr2 _ (fun u17 f17 => ?_)⟩
        refine back _ u17 (fun d hd => by rw [f17 d (by omega), e15, s2_comp _ _ _ _ (by omega), f10 d (by omega)]) (fun u eu hu => h0 i hi rfl hr u (by rw [eu, f17 39 (by omega)]; exact e1539) hu)
      · unfold wp_Model_tryOffer_69
        intro μ15 e15
        have e1539 : μ15 39 0 = 2 := by rw [e15, s2_same]
        rw [e1539]
        refine ⟨fun _ => back _ μ15 (fun d hd => by rw [e15, s2_comp _ _ _ _ (by omega), f10 d (by omega)]) (fun u eu hu => h2 i hi rfl hr 0 u (by rw [eu]; exact e1539) hu), fun h => absurd h (by decide)⟩
    refine ⟨fun _ => ⟨hin, fun hne => main 0 ?_, fun heq => main 1 ?_⟩, fun h => absurd rfl h⟩
    · rcases (show AOs A i 4 = 0 ∨ AOs A i 4 = 1 by omega) with h | h
      · exact absurd (by rw [h]; rfl) hne
      · unfold flp; rw [h]; rfl
    · have := (eqL (n := AOs A i 4) (m := 0) (by omega) (by decide)).mp heq
      unfold flp; rw [this]; rfl
  · have e39 : μ4 39 0 = 1 := by rw [e4, s2_same]
    rw [e39]
    exact ⟨fun h => absurd h (by decide), fun _ => h1 hn 0 μ4 e39 (moS_same (fun d hd => by rw [e4, s2_comp _ _ _ _ (by omega)]) hA)⟩
