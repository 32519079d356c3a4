/-! the reference: plan -/
theorem alone_iff {Os : Nat → Nat → Nat} {C t : Nat → Nat} (hO : ∀ i, i < 6 → okO (Os i)) {s a : Nat} (hs : s < str t 18) (ha : a < 12) (hd : 0 < dg t s a) : C a + LT Os C t (s - str t a) = LT Os C t s ↔ SV Os C t (s - str t a) = SV Os C t s := by
  have huf : ∀ d, d < 18 → unitV a d ≤ dg t s d := fun d _ => by
    unfold unitV
    split
    · rename_i e; subst e; omega
    · omega
  have hW := W_sub (C := C) hs huf
  rw [encN_unit, if_pos (by omega), pr_unit, if_pos ha] at hW
  have h1 := SV_LT (C := C) hO hs
  have h2 := SV_LT (C := C) hO (show s - str t a < str t 18 by omega)
  omega
theorem pf_plan (N : Nat) (hN : 100001 ≤ N) {μ0 : St} {bk : Nat} {Os : Nat → Nat → Nat} {C b : Nat → Nat} {z : Nat} (hX : repX μ0 bk Os C b z) (hC : ∀ a, a < 12 → C a ≤ 100000) (h3000 : str (tN Os b z) 18 ≤ 3000) (post : St → Prop)
    (hp : ∀ u : St, (∀ d, d < 24 ∨ 38 < d → u d = μ0 d) → repQ u z (planP Os C b z) → post u) : wp_Model_plan N μ0 post := by
  have hO : ∀ i, i < 6 → okO (Os i) := fun i hi => (hX.1.2.2 i hi).2.2.2.2.2.2
  have hz := hX.2.2.1
  have hbX : ∀ i, i < z → b i < 12 := fun i hi => (hX.2.2.2 i hi).2.1
  have hsm := tN_sm Os b hz
  have hdg : ∀ s d, d < 12 → dg (tN Os b z) s d < 100 := fun s d hd => dg_100 hsm s d hd
  unfold wp_Model_plan
  refine pf_reckonAll N hN hX hC h3000 _ (fun u1 f1 hR1 h30 => fun μ3 e3 => ?_)
  have I0 := inv_0 (Os := Os) hC hz hbX
  have hpe : planF Os C b z (tN Os b z) 10 (fullS (tN Os b z), P0s C b z) = planF Os C b z (tN Os b z) z (fullS (tN Os b z), P0s C b z) := by
    have := planF_more (b := b) (z := z) hO (10 - z) z (fullS (tN Os b z), P0s C b z) I0 (sm_tN_le Os b z)
    rw [show z + (10 - z) = 10 by omega] at this
    exact this
  -- the turns
  have turns : ∀ (n k : Nat) (s : Nat) (P : PS) (w : St), k ≤ 10 → 10 - k < n → (∀ d, d < 24 ∨ 38 < d → w d = μ0 d) → (∀ d, 26 ≤ d → d ≤ 30 → w d = u1 d) → repQ w z P → invP Os C b z (tN Os b z) s P → planF Os C b z (tN Os b z) (10 - k) (s, P) = planF Os C b z (tN Os b z) 10 (fullS (tN Os b z), P0s C b z) → wp_Model_plan_67 N post n (nI s) (nI k) w := by
    intro n
    induction n with
    | zero => intro k s P w _ h; omega
    | succ n ih =>
      intro k s P w hk hn wf wg hQ I hfin
      have hs := I.hs
      have done : (s, P) = planF Os C b z (tN Os b z) 10 (fullS (tN Os b z), P0s C b z) → ∀ v : St, (∀ d, d < 24 ∨ 38 < d → v d = μ0 d) → repQ v z P → post v := by
        intro he v hv hq
        refine hp v hv ?_
        unfold planP
        rw [← hpe, ← he]; exact hq
      rw [wp_Model_plan_67]
      refine pk_le 10 k (fun hq => ?_) (fun hq => ?_)
      · have e : 10 - k = 0 := by omega
        rw [e] at hfin
        exact done hfin w wf hQ
      · obtain ⟨q, hq2⟩ : ∃ q, 10 - k = q + 1 := ⟨10 - k - 1, by omega⟩
        rw [hq2] at hfin
        have hpl : planF Os C b z (tN Os b z) (q + 1) (s, P) = if laF (dg (tN Os b z) s) 12 < 12 then planF Os C b z (tN Os b z) q (stpP Os C b z (tN Os b z) s P (laF (dg (tN Os b z) s) 12)) else (s, P) := rfl
        rw [hpl] at hfin
        have hRw : repR w bk Os C b z := by
          obtain ⟨g1, g2, g3, g4, g5⟩ := hR1
          refine ⟨repX_same (fun d hd => wf d (by omega)) hX, ?_, ?_, ?_, ?_⟩
          · rw [wg 26 (by omega) (by omega)]; exact g2
          · rw [wg 27 (by omega) (by omega)]; exact g3
          · rw [wg 29 (by omega) (by omega)]; exact g4
          · rw [wg 28 (by omega) (by omega)]; exact g5
        refine pf_unfold N (by omega) hRw h3000 (by omega) _ (fun v fv v24 v25 => ?_)
        have hRv : repR v bk Os C b z := repR_same (fun d hd => fv d (by omega) (by omega)) hRw
        have vf : ∀ d, d < 24 ∨ 38 < d → v d = μ0 d := fun d hd => by rw [fv d (by omega) (by omega)]; exact wf d hd
        have vg : ∀ d, 26 ≤ d → d ≤ 30 → v d = u1 d := fun d h1 h2 => by rw [fv d (by omega) (by omega)]; exact wg d h1 h2
        have hQv : repQ v z P := by
          refine ⟨fun j hj => ?_, by rw [fv 38 (by decide) (by decide)]; exact hQ.2⟩
          rw [fv 34 (by decide) (by decide), fv 35 (by decide) (by decide), fv 36 (by decide) (by decide), fv 37 (by decide) (by decide)]
          exact hQ.1 j hj
        have v30 : ∀ x, x < str (tN Os b z) 18 → v 30 x = nI (LT Os C (tN Os b z) x) := fun x hx => by rw [vg 30 (by omega) (by omega)]; exact h30 x hx
        -- the least article
        have least : ∀ (m a : Nat), a ≤ 12 → 12 - a < m → (∀ c, c < a → dg (tN Os b z) s c = 0) → wp_Model_plan_80 N post (wp_Model_plan_67 N post n) m (nI s) (nI k) (nI a) v := by
          intro m
          induction m with
          | zero => intro a _ h; omega
          | succ m ihm =>
            intro a ha hm hba
            rw [wp_Model_plan_80]
            refine pk_le 12 a (fun h12 => ?_) (fun h12 => ?_)
            · have : a = 12 := by omega
              subst this
              unfold wp_Model_plan_101
              refine ⟨fun h => absurd rfl h, fun _ => ?_⟩
              rw [laF_no 12 hba, if_neg (by omega)] at hfin
              exact done hfin v vf hQv
            · have ha2 : a < 12 := h12
              have hd100 := hdg s a ha2
              rw [nI_clamp (by omega), v24 a ha2]
              refine ⟨vp_in_nI ha2 (by decide), fun hne => ?_, fun heq => ?_⟩
              · have hda : 0 < dg (tN Os b z) s a := by
                  rcases Nat.eq_zero_or_pos (dg (tN Os b z) s a) with h | h
                  · exact absurd (by rw [h]; rfl) hne
                  · exact h
                have ela : laF (dg (tN Os b z) s) 12 = a := by rw [laF_at hda hba, if_pos ha2]
                rw [ela, if_pos ha2] at hfin
                obtain ⟨al1, al2⟩ := alone_dg hs ha2 hda
                have hta : 0 < tN Os b z a := by have := dg_le (tN Os b z) s a; omega
                have h26 : v 26 a = nI (str (tN Os b z) a) := by
                  rw [hRv.2.1 a ha2]
                  unfold pl
                  rw [if_pos hta]
                have hin : vp_in (nI a) 12 := vp_in_nI ha2 (by decide)
                have hCa := hC a ha2
                have hL1 := LT_le (C := C) hO hC hsm (show s - str (tN Os b z) a < str (tN Os b z) 18 by omega)
                have hL2 := LT_le (C := C) hO hC hsm hs
                unfold wp_Model_plan_101
                rw [nI_clamp (by omega), h26, hRv.2.2.2.2 a ha2 hta, pk_sub al1, nI_clamp (by omega), nI_clamp (by omega), v30 _ (by omega), v30 s hs, nI_add]
                refine ⟨fun _ => ⟨hin, hin, vp_in_nI (by omega) (by decide), vp_in_nI (by omega) (by decide), fun hno => ?_, fun hyes => ?_⟩, fun h => absurd ((eqL (n := a) (m := 12) (by omega) (by decide)).mp h) (by omega)⟩
                · have hne2 : SV Os C (tN Os b z) (s - str (tN Os b z) a) ≠ SV Os C (tN Os b z) s := fun h => hno (by rw [(alone_iff hO hs ha2 hda).mpr h])
                  cases hc : chs Os C (tN Os b z) s a with
                  | none => exact absurd (chs_none hO hs ha2 hda hba hc) hne2
                  | some u =>
                    obtain ⟨g1, g2, g3, g4, g5, g6⟩ := chs_some hO hs ha2 hda hba hc
                    have hfd : (allU Os (tN Os b z) 6).find? (Pu Os C (tN Os b z) s a) = some u := by
                      unfold chs at hc
                      rw [if_neg hne2] at hc
                      exact hc
                    have hstp : stpP Os C b z (tN Os b z) s P a = (s - stp (tN Os b z) u, useP Os C b z P u) := by unfold stpP; rw [hc]
                    rw [hstp] at hfin
                    obtain ⟨b1, b2, b3, b4, b5, b6⟩ := allU_el hO g1
                    refine pf_findUse N hN hRv hC h3000 hs ha2 v24 v25 v30 hfd _ (fun x xf xl => ?_)
                    have hRx : repR x bk Os C b z := repR_same (fun d hd => xf d (by omega) (by omega) (by omega) (by omega)) hRv
                    have hQx : repQ x z P := by
                      refine ⟨fun j hj => ?_, by rw [xf 38 (by decide) (by decide) (by decide) (by decide)]; exact hQv.2⟩
                      rw [xf 34 (by decide) (by decide) (by decide) (by decide), xf 35 (by decide) (by decide) (by decide) (by decide), xf 36 (by decide) (by decide) (by decide) (by decide), xf 37 (by decide) (by decide) (by decide) (by decide)]
                      exact hQv.1 j hj
                    refine pf_MtakeUse N (by omega) hC hRx hQx I g1 g2 g4 xl _ (fun y yf hQy => ?_)
                    have hRy : repR y bk Os C b z := repR_same (fun d hd => yf d (by omega)) hRx
                    have yl : fulL y u.2 := by
                      obtain ⟨l1, l2, l3⟩ := xl
                      exact ⟨by rw [yf 33 (by omega)]; exact l1, by rw [yf 31 (by omega)]; exact l2, l3⟩
                    refine pf_behindUse N (by omega) b1 yl b4 (t := tN Os b z) (fun e he => ?_) (hRy.2.2.1 u.1 b1) (by exact g5) _ ?_
                    · rw [hRy.2.1 e (b5 e he)]
                      unfold pl
                      have h7 := b6 e
                      have h8 := List.count_pos_iff.mpr he
                      rw [if_pos (by omega)]
                    · unfold wp_Model_plan_182
                      rw [nI_1]
                      refine ih (k + 1) _ (useP Os C b z P u) y (by omega) (by omega) (fun d hd => ?_) (fun d h1 h2 => ?_) hQy (inv_use hO I g1 g2 g4 g6) (by rw [show 10 - (k + 1) = q by omega]; exact hfin)
                      · rw [yf d (by omega), xf d (by omega) (by omega) (by omega) (by omega)]; exact vf d hd
                      · rw [yf d (by omega), xf d (by omega) (by omega) (by omega) (by omega)]; exact vg d h1 h2
                · have he := (alone_iff hO hs ha2 hda).mp ((eqL (by omega) (by omega)).mp hyes)
                  have hchs : chs Os C (tN Os b z) s a = none := if_pos he
                  have hstp : stpP Os C b z (tN Os b z) s P a = (s - str (tN Os b z) a, aloP b z P a) := by unfold stpP; rw [hchs]
                  rw [hstp] at hfin
                  obtain ⟨I2, hfo⟩ := inv_alone I ha2 hda he
                  refine pf_firstOf N (by omega) hRv.1 ha2 (fun j hj => (hQv.1 j hj).2.2.2) hfo _ ?_
                  rw [nI_clamp (by omega), nar_1]
                  refine ⟨vp_in_nI (by omega) (by decide), fun μ35 e35 => ⟨hin, ?_⟩⟩
                  have g26 : μ35 26 a = nI (str (tN Os b z) a) := by rw [e35, s2_comp _ _ _ _ (by decide)]; exact h26
                  unfold wp_Model_plan_182
                  rw [g26, pk_sub al1, nI_1]
                  refine ih (k + 1) _ (aloP b z P a) μ35 (by omega) (by omega) (fun d hd => by rw [e35, s2_comp _ _ _ _ (by omega)]; exact vf d hd) (fun d h1 h2 => by rw [e35, s2_comp _ _ _ _ (by omega)]; exact vg d h1 h2) ⟨fun j hj => ?_, ?_⟩ I2 (by rw [show 10 - (k + 1) = q by omega]; exact hfin)
                  · obtain ⟨q1, q2, q3, q4⟩ := hQv.1 j hj
                    have c : ∀ d, d ≠ 37 → μ35 d = v d := fun d hd => by rw [e35, s2_comp _ _ _ _ hd]
                    rw [c 34 (by decide), c 35 (by decide), c 36 (by decide)]
                    exact ⟨q1, q2, q3, stG_repM (fun j hj => (hQv.1 j hj).2.2.2) (by rw [e35]) j hj⟩
                  · rw [e35, s2_comp _ _ _ _ (by decide)]; exact hQv.2
              · rw [nI_1]
                have hz0 : dg (tN Os b z) s a = 0 := (eqL (by omega) (by decide)).mp heq
                refine ihm (a + 1) (by omega) (by omega) (fun c hc => ?_)
                by_cases e : c = a
                · subst e; exact hz0
                · exact hba c (by omega)
        exact least N 0 (by omega) (by omega) (fun c hc => by omega)
  -- all alone, to begin with
  have inits : ∀ (n i : Nat) (w : St), i ≤ z → z - i < n → (∀ d, d < 24 ∨ 38 < d → w d = μ0 d) → (∀ d, 26 ≤ d → d ≤ 30 → w d = u1 d) → w 38 0 = nI 0 → (∀ j, j < i → w 34 j = -1 ∧ w 35 j = -1 ∧ w 36 j = nI (C (b j)) ∧ w 37 j = nI 0) → wp_Model_plan_11 N post n (nI i) w := by
    intro n
    induction n with
    | zero => intro i w _ h; omega
    | succ n ih =>
      intro i w hi hn wf wg w38 wj
      have h22 : w 22 0 = nI z := by rw [wf 22 (by omega)]; exact hX.2.1
      rw [wp_Model_plan_11, h22]
      refine pk_le z i (fun hq => ?_) (fun hq => ?_)
      · have : i = z := by omega
        subst this
        have e29 : w 29 0 - 1 = nI (fullS (tN Os b i)) := by
          rw [wg 29 (by omega) (by omega), hR1.2.2.2.1, show (1 : Int32) = nI 1 from rfl, pk_sub (str_pos _ _)]; rfl
        rw [e29]
        refine turns N 0 _ (P0s C b i) w (by omega) (by omega) wf wg ⟨fun j hj => ?_, w38⟩ I0 rfl
        obtain ⟨q1, q2, q3, q4⟩ := wj j hj
        refine ⟨q1, q2, ?_, q4⟩
        rw [q3]
        show nI (C (b j)) = nI (if j < i then C (b j) else 0)
        rw [if_pos hj]
      · have hin : vp_in (nI i) 10 := vp_in_nI (by omega) (by decide)
        have h21 : w 21 i = nI (C (b i)) := by rw [wf 21 (by omega)]; exact (hX.2.2.2 i hq).2.2
        rw [nI_clamp (by omega), nar_0, nI_1]
        refine ⟨hin, fun μ6 e6 => ⟨hin, fun μ8 e8 => ⟨hin, fun μ10 e10 => ⟨hin, hin, fun μ13 e13 => ?_⟩⟩⟩⟩
        have h10 : μ10 21 i = nI (C (b i)) := by rw [e10, s2_comp _ _ _ _ (by decide), e8, s2_comp _ _ _ _ (by decide), e6, s2_comp _ _ _ _ (by decide)]; exact h21
        refine ih (i + 1) μ13 (by omega) (by omega) (fun d hd => ?_) (fun d h1 h2 => ?_) ?_ (fun j hj => ?_)
        · rw [e13, s2_comp _ _ _ _ (by omega), e10, s2_comp _ _ _ _ (by omega), e8, s2_comp _ _ _ _ (by omega), e6, s2_comp _ _ _ _ (by omega)]; exact wf d hd
        · rw [e13, s2_comp _ _ _ _ (by omega), e10, s2_comp _ _ _ _ (by omega), e8, s2_comp _ _ _ _ (by omega), e6, s2_comp _ _ _ _ (by omega)]; exact wg d h1 h2
        · rw [e13, s2_comp _ _ _ _ (by decide), e10, s2_comp _ _ _ _ (by decide), e8, s2_comp _ _ _ _ (by decide), e6, s2_comp _ _ _ _ (by decide)]; exact w38
        · by_cases e : j = i
          · subst e
            refine ⟨?_, ?_, ?_, ?_⟩
            · rw [e13, s2_comp _ _ _ _ (by decide), e10, s2_comp _ _ _ _ (by decide), e8, s2_same]
            · rw [e13, s2_comp _ _ _ _ (by decide), e10, s2_same]
            · rw [e13, s2_same]; exact h10
            · rw [e13, s2_comp _ _ _ _ (by decide), e10, s2_comp _ _ _ _ (by decide), e8, s2_comp _ _ _ _ (by decide), e6, s2_same]
          · obtain ⟨q1, q2, q3, q4⟩ := wj j (by omega)
            rw [e13, s2_ne _ _ _ _ (Or.inr e), s2_ne _ _ _ _ (Or.inr e), s2_ne _ _ _ _ (Or.inr e), s2_ne _ _ _ _ (Or.inr e), e10, s2_ne _ _ _ _ (Or.inr e), s2_ne _ _ _ _ (Or.inr e), s2_ne _ _ _ _ (Or.inr e), s2_ne _ _ _ _ (Or.inr e), e8, s2_ne _ _ _ _ (Or.inr e), s2_ne _ _ _ _ (Or.inr e), s2_ne _ _ _ _ (Or.inr e), s2_ne _ _ _ _ (Or.inr e), e6, s2_ne _ _ _ _ (Or.inr e), s2_ne _ _ _ _ (Or.inr e), s2_ne _ _ _ _ (Or.inr e), s2_ne _ _ _ _ (Or.inr e)]
            exact ⟨q1, q2, q3, q4⟩
  refine inits N 0 μ3 (by omega) (by omega) (fun d hd => ?_) (fun d h1 h2 => ?_) ?_ (fun j hj => by omega)
  · rw [e3, s2_comp _ _ _ _ (by omega)]; exact f1 d (by omega)
  · rw [e3, s2_comp _ _ _ _ (by omega)]
  · rw [e3, s2_same]; rfl
