/-! scan, unscan -/
def aBas (A : AS) (b : Nat → Nat) (z : Nat) : AS := (AOs A, AC A, AX A, b, z, A.2.2.2.2.2)
theorem ok_aBas {A : AS} (h : okS A) {b : Nat → Nat} {z : Nat} (hz : z ≤ 10) (hb : ∀ i, i < z → b i < 12) (hr : str (tN (AOs A) b z) 18 ≤ 3000) : okS (aBas A b z) := by
  obtain ⟨h1, hC, hX, -, -, -, hR, hrec⟩ := h
  exact ⟨h1, hC, hX, hz, hb, hr, hR, hrec⟩
theorem cl_aBas {A : AS} {θ θ2 β β2 τ : St} {ω : Nat → St} {π : St} (hA : clS A θ β τ ω π) {b : Nat → Nat} {z : Nat} (hB : repB β2 b z) (h6 : θ2 7 0 = 0) (h7 : θ2 8 0 = θ 8 0) (h9 : θ2 1 = θ 1) (π2 : St) : clS (aBas A b z) θ2 β2 τ ω π2 := by
  obtain ⟨a1, a2, a3, a4, a5⟩ := hA
  exact ⟨by rw [h7]; exact a1, hB, by rw [h9]; exact a3, a4, Or.inl h6⟩
theorem mo_aBas {A : AS} {μ w : St} (hA : moS A μ) {b : Nat → Nat} {z : Nat} (h8 : ∀ i, i < z → w 8 i = nI (b i)) (h9 : w 9 0 = nI z) (hf : ∀ d, d < 20 → d ≠ 8 → d ≠ 9 → w d = μ d) : moS (aBas A b z) w := by
  obtain ⟨m1, m2, m3, m4, m5, m6, m7, m8⟩ := hA
  refine ⟨?_, fun i hi => repK_same (fun d d1 d2 => hf d (by omega) (by omega) (by omega)) (m2 i hi), h8, h9, ?_, ?_, fun r hr => recS_same (A := A) (fun d hd => hf d (by omega) (by omega) (by omega)) (m7 r hr), ?_⟩
  · rw [hf 0 (by omega) (by omega) (by omega), hf 1 (by omega) (by omega) (by omega)]; exact m1
  · rw [hf 10 (by omega) (by omega) (by omega)]; exact m5
  · rw [hf 11 (by omega) (by omega) (by omega)]; exact m6
  · rw [hf 19 (by omega) (by omega) (by omega), hf 14 (by omega) (by omega) (by omega)]; exact m8
theorem clT_scan {A : AS} {θ β τ : St} {ω : Nat → St} {π : St} (κ υ : St) (ο : Nat → Int64) (hok : okS A) (hA : clS A θ β τ ω π) (N : Nat) (hN : 19 ≤ N) (x1 : Int32) (post : Int32 → (St × St × St × (Nat → Int64)) → Prop)
    (h1 : ¬ rg 0 12 x1 → post 1 (θ, β, κ, ο)) (h2 : rg 0 12 x1 → Az A = 10 → post 2 (θ, β, κ, ο))
    (h3 : ∀ a, a < 12 → x1 = nI a → Az A < 10 → 3000 < str (tp (AOs A) (nB (fup (Ab A) (Az A) a)) (Az A + 1)) 18 → ∀ β2 κ2, clS A θ β2 τ ω π → post 2 (θ, β2, κ2, ο))
    (h0 : ∀ a, a < 12 → x1 = nI a → Az A < 10 → str (tp (AOs A) (nB (fup (Ab A) (Az A) a)) (Az A + 1)) 18 ≤ 3000 → ∀ θ2 β2 κ2 ο2, ο2 0 = Int32.toInt64 (nI (Az A + 1)) → clS (aBas A (fup (Ab A) (Az A) a) (Az A + 1)) θ2 β2 τ ω π → post 0 (θ2, β2, κ2, ο2)) : wp_Law_scan N θ β τ ω κ υ ο x1 post := by
  obtain ⟨a1, a2, a3, a4, a5⟩ := id hA
  unfold wp_Law_scan wp_Till_scan
  refine pf_reqArt N _ _ (fun a ha e1 => ?_) (fun hn => Or.inl ⟨rfl, h1 hn⟩)
  subst e1
  have hz := a2.1
  rw [a2.2.1]
  refine pk_lt (Az A) 10 (fun hlt => ?_) (fun hge => Or.inr ⟨rfl, h2 (rg_of (by omega) ha) (by omega)⟩)
  refine pf_add N a2 hlt ha _ (fun β4 hB4 => ?_)
  have h31 := str_31 (f := nB (fup (Ab A) (Az A) a)) (z := Az A + 1) hok.hO (by omega)
  refine pf_roomB N hN κ υ τ a4 hB4 _ (fun κ2 => pk_le (str (tp (AOs A) (nB (fup (Ab A) (Az A) a)) (Az A + 1)) 18) 3000 (fun hr => ?_) (fun hr => ?_))
  · intro θ9 e9
    refine ⟨vp_in_nI (n := 0) (by decide) (by decide), fun ο4 e4 => ?_⟩
    refine h0 a ha rfl hlt hr θ9 β4 κ2 ο4 ?_ (cl_aBas hA hB4 (by rw [e9, s2_same]) (by rw [e9, s2_comp _ _ _ _ (by decide)]) (by rw [e9, s2_comp _ _ _ _ (by decide)]) π)
    rw [e4]
    show vp_updL ο 0 (Int32.toInt64 (β4 1 0)) 0 = _
    rw [upL_same, hB4.2.1]
  · rw [hB4.2.1, subM1]
    refine pf_remove N (by omega) hB4 (by omega) _ (fun β5 hB5 => Or.inr ⟨rfl, ?_⟩)
    refine h3 a ha rfl hlt hr β5 κ2 ⟨a1, ?_, a3, a4, a5⟩
    rw [Nat.add_sub_cancel] at hB5
    refine repB_congr (fun i hi => ?_) hB5
    unfold rmv
    rw [if_pos hi, fup_ne _ _ (by omega)]
theorem moT_scan {A : AS} {μ : St} (hok : okS A) (hA : moS A μ) (N : Nat) (hN : 13 ≤ N) (x1 : Int32) (post : Int32 → St → Prop)
    (h1 : ¬ rg 0 12 x1 → ∀ v u, u 39 0 = 1 → moS A u → post v u) (h2 : rg 0 12 x1 → Az A = 10 → ∀ v u, u 39 0 = 2 → moS A u → post v u)
    (h3 : ∀ a, a < 12 → x1 = nI a → Az A < 10 → 3000 < str (tp (AOs A) (nB (fup (Ab A) (Az A) a)) (Az A + 1)) 18 → ∀ v u, u 39 0 = 2 → moS A u → post v u)
    (h0 : ∀ a, a < 12 → x1 = nI a → Az A < 10 → str (tp (AOs A) (nB (fup (Ab A) (Az A) a)) (Az A + 1)) 18 ≤ 3000 → ∀ u, u 39 0 = 0 → moS (aBas A (fup (Ab A) (Az A) a) (Az A + 1)) u → post (nI (Az A + 1)) u) : wp_Model_scan N μ x1 post := by
  have hz := hok.hz
  obtain ⟨m1, m2, m3, m4, m5, m6, m7, m8⟩ := id hA
  have stop : ∀ y : Int32, ¬ y = 0 → (∀ v u, u 39 0 = y → moS A u → post v u) → wp_Model_scan_29 N post x1 y μ := by
    intro y hy hk
    unfold wp_Model_scan_29
    intro μ5 e5
    have e39 : μ5 39 0 = y := by rw [e5, s2_same]
    rw [e39]
    exact ⟨fun h => absurd h hy, fun _ => hk 0 μ5 e39 (moS_same (fun d hd => by rw [e5, s2_comp _ _ _ _ (by omega)]) hA)⟩
  unfold wp_Model_scan
  rw [m4]
  refine pf_Mw N (lo := 0) (n := 12) (by decide) (by decide) (by decide) _ (fun a _ ha e1 => ⟨fun _ => ⟨fun hne => ?_, fun heq => ?_⟩, fun h => absurd h (by decide)⟩) (fun hn => ⟨fun h => absurd rfl h, fun _ => stop 1 (by decide) (h1 hn)⟩)
  · subst e1
    have hlt : Az A < 10 := by
      rcases Nat.lt_or_ge (Az A) 10 with h | h
      · exact h
      · exact absurd (by rw [show Az A = 10 by omega]; rfl) hne
    unfold wp_Model_scan_29
    intro μ5 e5
    have e39 : μ5 39 0 = 0 := by rw [e5, s2_same]
    have e9 : μ5 9 0 = nI (Az A) := by rw [e5, s2_comp _ _ _ _ (by decide)]; exact m4
    rw [e39, e9, nI_clamp (by omega)]
    refine ⟨fun _ => ⟨vp_in_nI hlt (by decide), fun μ8 e8 => fun μ9 e9' => ?_⟩, fun h => absurd rfl h⟩
    have fr9 : ∀ d, d ≠ 8 → d ≠ 9 → d ≠ 39 → μ9 d = μ d := fun d d8 d9 d39 => by rw [e9', s2_comp _ _ _ _ d9, e8, s2_comp _ _ _ _ d8, e5, s2_comp _ _ _ _ d39]
    have e99 : μ9 9 0 = nI (Az A + 1) := by rw [e9', s2_same, e8, s2_comp _ _ _ _ (by decide), e9, nI_1]
    have e98 : ∀ i, i < Az A + 1 → μ9 8 i = nI (fup (Ab A) (Az A) a i) := fun i hi => by
      rw [e9', s2_comp _ _ _ _ (by decide), e8]
      by_cases e : i = Az A
      · subst e; rw [s2_same, fup_same]
      · rw [s2_ne _ _ _ _ (Or.inr e), fup_ne _ _ e, e5, s2_comp _ _ _ _ (by decide)]; exact m3 i (by omega)
    have hA9 : moS (aBas A (fup (Ab A) (Az A) a) (Az A + 1)) μ9 := mo_aBas hA e98 e99 (fun d hd d8 d9 => fr9 d d8 d9 (by omega))
    -- the room is asked of the basket with the new unit
    have tb : ∀ post2 : St → Prop, (∀ u, (∀ d, d < 20 ∨ 23 < d → u d = μ9 d) → repX u 12 (AOs A) (AC A) (fup (Ab A) (Az A) a) (Az A + 1) → post2 u) → wp_Model_takeBasket N μ9 post2 := by
      intro post2 hp2
      have hbn : ∀ i, i < Az A + 1 → fup (Ab A) (Az A) a i < 12 := fun i hi => by
        unfold fup
        split
        · exact ha
        · exact hok.hb i (by omega)
      -- takeBasket wants no room: its rows are asked of a till whose room is free
      obtain ⟨n1, n2, n3, n4, -, -, -, -⟩ := id hA9
      have loop : ∀ (n i : Nat) (w : St), i ≤ Az A + 1 → Az A + 1 - i < n → (∀ d, d < 20 ∨ 23 < d → w d = μ9 d) → w 23 0 = nI 12 → w 22 0 = nI (Az A + 1) → (∀ j, j < i → w 20 j = nI (fup (Ab A) (Az A) a j) ∧ w 21 j = nI (AC A (fup (Ab A) (Az A) a j))) → wp_Model_takeBasket_16 N post2 n (nI i) w := by
        intro n
        induction n with
        | zero => intro i w _ h; omega
        | succ n ih =>
          intro i w hi hn wf w23 w22 wj
          rw [wp_Model_takeBasket_16, wf 9 (by omega), e99]
          refine pk_le (Az A + 1) i (fun hq => ?_) (fun hq => ?_)
          · refine hp2 w wf ⟨⟨by omega, w23, fun j hj => ?_⟩, w22, by omega, fun j hj => ⟨(wj j (by omega)).1, hbn j hj, (wj j (by omega)).2⟩⟩
            have := repK_same (w := w) (fun d d1 d2 => wf d (by omega)) (n2 j hj)
            exact this
          · have hb := hbn i hq
            have hin : vp_in (nI i) 10 := vp_in_nI (by omega) (by decide)
            rw [nI_clamp (by omega), wf 8 (by omega), e98 i hq]
            refine ⟨hin, hin, fun μ6 e6 => ?_⟩
            have e68 : μ6 8 i = nI (fup (Ab A) (Az A) a i) := by rw [e6, s2_comp _ _ _ _ (by decide), wf 8 (by omega)]; exact e98 i hq
            have e60 : μ6 0 (fup (Ab A) (Az A) a i) = nI (AC A (fup (Ab A) (Az A) a i)) := by rw [e6, s2_comp _ _ _ _ (by decide), wf 0 (by omega)]; exact (n1 _ hb).1
            rw [e68, nI_clamp (by omega), e60, nI_1]
            refine ⟨hin, vp_in_nI hb (by decide), hin, fun μ10 e10 => ?_⟩
            refine ih (i + 1) μ10 (by omega) (by omega) (fun d hd => by rw [e10, s2_comp _ _ _ _ (by omega), e6, s2_comp _ _ _ _ (by omega)]; exact wf d hd) (by rw [e10, s2_comp _ _ _ _ (by decide), e6, s2_comp _ _ _ _ (by decide)]; exact w23) (by rw [e10, s2_comp _ _ _ _ (by decide), e6, s2_comp _ _ _ _ (by decide)]; exact w22) (fun j hj => ?_)
            by_cases e : j = i
            · subst e
              exact ⟨by rw [e10, s2_comp _ _ _ _ (by decide), e6, s2_same], by rw [e10, s2_same]⟩
            · obtain ⟨q1, q2⟩ := wj j (by omega)
              exact ⟨by rw [e10, s2_comp _ _ _ _ (by decide), e6, s2_ne _ _ _ _ (Or.inr e)]; exact q1, by rw [e10, s2_ne _ _ _ _ (Or.inr e), e6, s2_comp _ _ _ _ (by decide)]; exact q2⟩
      unfold wp_Model_takeBasket
      intro μ1 f1 μ2 f2
      refine loop N 0 μ2 (by omega) (by omega) (fun d hd => by rw [f2, s2_comp _ _ _ _ (by omega), f1, s2_comp _ _ _ _ (by omega)]) (by rw [f2, s2_comp _ _ _ _ (by decide), f1, s2_same]; rfl) ?_ (fun j hj => by omega)
      rw [f2, s2_same, f1, s2_comp _ _ _ _ (by decide)]; exact e99
    refine tb _ (fun u10 f10 hX10 => ?_)
    have e10 : u10 9 0 = nI (Az A + 1) := by rw [f10 9 (by omega)]; exact e99
    have e1039 : u10 39 0 = 0 := by rw [f10 39 (by omega), e9', s2_comp _ _ _ _ (by decide), e8, s2_comp _ _ _ _ (by decide)]; exact e39
    refine pf_Mfits N hN hX10 _ (fun hr => ⟨fun h => absurd h (by decide), fun _ => ?_⟩) (fun hr => ⟨fun _ => fun μ15 e15 => fun μ16 e16 => ?_, fun h => absurd rfl h⟩)
    · rw [e10]
      exact h0 a ha rfl hlt hr u10 e1039 (moS_same (fun d hd => f10 d (by omega)) hA9)
    · refine h3 a ha rfl hlt hr 0 μ16 (by rw [e16, s2_same]) ?_
      have f16 : ∀ d, d < 20 → d ≠ 9 → μ16 d = μ9 d := fun d hd d9 => by rw [e16, s2_comp _ _ _ _ (by omega), e15, s2_comp _ _ _ _ d9, f10 d (by omega)]
      have h9 : μ16 9 0 = nI (Az A) := by rw [e16, s2_comp _ _ _ _ (by decide), e15, s2_same, e10, subM1]
      have h8 : ∀ i, i < Az A → μ16 8 i = nI (Ab A i) := fun i hi => by
        rw [f16 8 (by omega) (by omega), e98 i (by omega), fup_ne _ _ (by omega)]
      exact mo_aBas (b := Ab A) (z := Az A) hA h8 h9 (fun d hd d8 d9 => by rw [f16 d hd d9]; exact fr9 d d8 d9 (by omega))
  · subst e1
    have h10 : Az A = 10 := (eqL (n := Az A) (m := 10) (by omega) (by decide)).mp heq
    exact stop 2 (by decide) (h2 (rg_of (by omega) ha) h10)
theorem clT_unscan {A : AS} {θ β τ : St} {ω : Nat → St} {π : St} (ο : Nat → Int64) (hok : okS A) (hA : clS A θ β τ ω π) (N : Nat) (hN : 12 ≤ N) (x1 : Int32) (post : Int32 → (St × St × (Nat → Int64)) → Prop)
    (h1 : ¬ rg 0 (Az A) x1 → post 1 (θ, β, ο))
    (h0 : ∀ i, i < Az A → x1 = nI i → ∀ θ2 β2 ο2, ο2 0 = Int32.toInt64 (nI (Ab A i)) → clS (aBas A (rmv (Ab A) i) (Az A - 1)) θ2 β2 τ ω π → post 0 (θ2, β2, ο2)) : wp_Law_unscan N θ β ο x1 post := by
  obtain ⟨a1, a2, a3, a4, a5⟩ := id hA
  unfold wp_Law_unscan wp_Till_unscan
  have hz := a2.1
  refine pf_reqIdx N (z := Az A) (by omega) a2.2.1 _ _ (fun i hi e1 => ?_) (fun hn => ⟨rfl, h1 hn⟩)
  subst e1
  refine ⟨vp_in_nI (by omega) (by decide), pf_remove N hN a2 hi _ (fun β4 hB4 => fun θ6 e6 => ⟨vp_in_nI (n := 0) (by decide) (by decide), fun ο4 e4 => ?_⟩)⟩
  refine h0 i hi rfl θ6 β4 ο4 ?_ (cl_aBas hA hB4 (by rw [e6, s2_same]) (by rw [e6, s2_comp _ _ _ _ (by decide)]) (by rw [e6, s2_comp _ _ _ _ (by decide)]) π)
  rw [e4, nI_clamp (by omega), (a2.2.2 i hi).1]
  exact upL_same ..
theorem moT_unscan {A : AS} {μ : St} (hok : okS A) (hA : moS A μ) (N : Nat) (hN : 12 ≤ N) (x1 : Int32) (post : Int32 → St → Prop)
    (h1 : ¬ rg 0 (Az A) x1 → ∀ v u, u 39 0 = 1 → moS A u → post v u)
    (h0 : ∀ i, i < Az A → x1 = nI i → ∀ u, u 39 0 = 0 → moS (aBas A (rmv (Ab A) i) (Az A - 1)) u → post (nI (Ab A i)) u) : wp_Model_unscan N μ x1 post := by
  have hz := hok.hz
  obtain ⟨m1, m2, m3, m4, m5, m6, m7, m8⟩ := id hA
  unfold wp_Model_unscan
  refine pf_Mw N (lo := 0) (n := Az A) (by omega) (by decide) (by rw [m4]) _ (fun i _ hi e1 => ⟨fun h => absurd h (by decide), fun _ => ?_⟩) (fun hn => ⟨fun _ => ?_, fun h => absurd rfl h⟩)
  · subst e1
    unfold wp_Model_unscan_20
    intro μ4 e4
    have e39 : μ4 39 0 = 0 := by rw [e4, s2_same]
    have e9 : μ4 9 0 = nI (Az A) := by rw [e4, s2_comp _ _ _ _ (by decide)]; exact m4
    have e8 : μ4 8 i = nI (Ab A i) := by rw [e4, s2_comp _ _ _ _ (by decide)]; exact m3 i hi
    rw [e39, e9, nI_clamp (by omega), e8]
    refine ⟨fun _ => ⟨vp_in_nI (by omega) (by decide), fun μ7 e7 => ?_⟩, fun h => absurd rfl h⟩
    have e79 : μ7 9 0 = nI (Az A - 1) := by rw [e7, s2_same, show (1 : Int32) = nI 1 from rfl, pk_sub (by omega)]
    have loop : ∀ (n k : Nat) (w : St), i ≤ k → k ≤ Az A - 1 → Az A - 1 - k < n → (∀ d, d ≠ 8 → w d = μ7 d) → (∀ j, j < k → w 8 j = nI (rmv (Ab A) i j)) → (∀ j, k ≤ j → j < Az A → w 8 j = nI (Ab A j)) → wp_Model_unscan_51 N post n (nI (Ab A i)) (nI k) w := by
      intro n
      induction n with
      | zero => intro k w _ _ h; omega
      | succ n ih =>
        intro k w hik hk hn wf wl wh
        rw [wp_Model_unscan_51, wf 9 (by decide), e79]
        refine pk_le (Az A - 1) k (fun hq => ?_) (fun hq => ?_)
        · refine h0 i hi rfl w (by rw [wf 39 (by decide), e7, s2_comp _ _ _ _ (by decide)]; exact e39) (mo_aBas hA (fun j hj => wl j (by omega)) (by rw [wf 9 (by decide)]; exact e79) (fun d hd d8 d9 => by rw [wf d d8, e7, s2_comp _ _ _ _ d9, e4, s2_comp _ _ _ _ (by omega)]))
        · rw [nI_1, nI_clamp (by omega), nI_clamp (by omega), wh (k + 1) (by omega) (by omega)]
          refine ⟨vp_in_nI (by omega) (by decide), vp_in_nI (by omega) (by decide), fun μ11 e11 => ?_⟩
          refine ih (k + 1) μ11 (by omega) (by omega) (by omega) (fun d hd => by rw [e11, s2_comp _ _ _ _ hd]; exact wf d hd) (fun j hj => ?_) (fun j hj1 hj2 => ?_)
          · by_cases e : j = k
            · subst e
              rw [e11, s2_same]
              unfold rmv
              rw [if_neg (by omega)]
            · rw [e11, s2_ne _ _ _ _ (Or.inr e)]; exact wl j (by omega)
          · rw [e11, s2_ne _ _ _ _ (Or.inr (by omega))]; exact wh j (by omega) hj2
    have b8 : ∀ j, j < Az A → μ7 8 j = nI (Ab A j) := fun j hj => by rw [e7, s2_comp _ _ _ _ (by decide), e4, s2_comp _ _ _ _ (by decide)]; exact m3 j hj
    refine loop N i μ7 (by omega) (by omega) (by omega) (fun _ _ => rfl) (fun j hj => ?_) (fun j _ hj => b8 j hj)
    unfold rmv
    rw [if_pos hj]; exact b8 j (by omega)
  · unfold wp_Model_unscan_20
    intro μ4 e4
    have e39 : μ4 39 0 = 1 := by rw [e4, s2_same]
    rw [e39]
    exact ⟨fun h => absurd h (by decide), fun _ => h1 hn 0 μ4 e39 (moS_same (fun d hd => by rw [e4, s2_comp _ _ _ _ (by omega)]) hA)⟩
theorem ok_scan {A : AS} (h : okS A) {a : Nat} (ha : a < 12) (hz : Az A < 10) (hr : str (tp (AOs A) (nB (fup (Ab A) (Az A) a)) (Az A + 1)) 18 ≤ 3000) : okS (aBas A (fup (Ab A) (Az A) a) (Az A + 1)) := by
  refine ok_aBas h (by omega) (fun i hi => ?_) (by rw [tN_tp (by omega)]; exact hr)
  unfold fup
  split
  · exact ha
  · exact h.hb i (by omega)
theorem ok_unscan {A : AS} (h : okS A) {i : Nat} (hi : i < Az A) : okS (aBas A (rmv (Ab A) i) (Az A - 1)) := by
  have hz := h.hz
  refine ok_aBas h (by omega) (fun j hj => ?_) (room_rmv hi h.hroom)
  unfold rmv
  split
  · exact h.hb j (by omega)
  · exact h.hb (j + 1) (by omega)
