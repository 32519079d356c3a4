/-! the class: the plan -/
abbrev bI (g : Bool) : Int32 := nI (if g then 1 else 0)
theorem nar_0 : vp_nar .boolean 0 = nI 0 := by decide +kernel
theorem nar_1 : vp_nar .boolean 1 = nI 1 := by decide +kernel
def repP (π : St) (z : Nat) (P : PS) : Prop := (∀ j, j < z → π 0 j = (psF P) j ∧ π 1 j = (psU P) j ∧ π 2 j = nI ((psY P) j) ∧ π 4 j = bI ((psG P) j)) ∧ π 3 0 = nI (psn P)
def repB (β : St) (b : Nat → Nat) (z : Nat) : Prop := z ≤ 10 ∧ β 1 0 = nI z ∧ ∀ i, i < z → β 0 i = nI (b i) ∧ b i < 12
theorem pf_takeFirst (N : Nat) (hN : 11 ≤ N) {π β : St} (ρ : Nat → Int64) {b : Nat → Nat} {z a : Nat} (hB : repB β b z) (ha : a < 12) {G : Nat → Bool} (hG : ∀ j, j < z → π 4 j = bI (G j)) (hf : fo G b a z < z) (post : Int32 → St → Prop) (hp : ∀ π2, π2 = s2 π 4 (fo G b a z) (nI 1) → post (nI (fo G b a z)) π2) : wp_Plan_takeFirst N π ρ β (nI a) post := by
  obtain ⟨hz, hb1, hb⟩ := hB
  obtain ⟨⟨f1, f2⟩, f3⟩ := fo_lt (G := G) (b := b) (a := a) z hf
  have loop : ∀ (n i : Nat), i ≤ fo G b a z → z - i < n → wp_Plan_takeFirst_2 N ρ β post n (nI a) (nI i) π := by
    intro n
    induction n with
    | zero => intro i _ h; omega
    | succ n ih =>
      intro i hi hn
      obtain ⟨x1, x2⟩ := hb i (by omega)
      have hin : vp_in (nI i) 10 := vp_in_nI (by omega) (by decide)
      rw [wp_Plan_takeFirst_2, hb1]
      refine pk_le z i (fun h => by omega) (fun _ => ?_)
      rw [nI_clamp (by omega), hG i (by omega), x1]
      have next : i ≠ fo G b a z → wp_Plan_takeFirst_38 N ρ β post (wp_Plan_takeFirst_2 N ρ β post n) (nI a) (nI i) π := by
        intro hne
        unfold wp_Plan_takeFirst_38
        rw [nI_1]
        exact ih (i + 1) (by omega) (by omega)
      refine ⟨hin, fun hg => ?_, fun hg => ⟨hin, fun hne => ?_, fun heq => ⟨hin, fun π7 e7 => ?_⟩⟩⟩
      · refine next (fun e => hg ?_)
        rw [e, f1]; rfl
      · refine next (fun e => hne ?_)
        rw [e, f2]
      · have hGi : G i = false := by
          cases hgi : G i with
          | false => rfl
          | true => rw [hgi] at hg; exact absurd hg (by decide)
        have hbi : b i = a := (eqL (by omega) (by omega)).mp heq
        have e : i = fo G b a z := by
          rcases Nat.lt_or_ge i (fo G b a z) with h | h
          · exact absurd ⟨hGi, hbi⟩ (f3 i h)
          · omega
        rw [e] at e7 ⊢
        rw [nar_1] at e7
        exact hp π7 e7
  exact loop N 0 (by omega) (by omega)
theorem stG_rep {π π2 : St} {b : Nat → Nat} {z a : Nat} {G : Nat → Bool} (hG : ∀ j, j < z → π 4 j = bI (G j)) (e : π2 4 = s2 π 4 (fo G b a z) (nI 1) 4) : ∀ j, j < z → π2 4 j = bI (stG b z G a j) := by
  intro j hj
  rw [e]
  unfold stG
  by_cases ej : j = fo G b a z
  · rw [← ej, s2_same, decide_eq_true rfl, Bool.or_true]; rfl
  · rw [s2_ne _ _ _ _ (Or.inr ej), decide_eq_false ej, Bool.or_false]; exact hG j hj
theorem pf_PtakeUse (N : Nat) (hN : 12 ≤ N) {κ υ β π : St} (ρ : Nat → Int64) {Os : Nat → Nat → Nat} {C b t : Nat → Nat} {z s : Nat} {P : PS} (hO : ∀ i, i < 6 → okO (Os i)) (hC : ∀ a, a < 12 → C a ≤ 100000) (hB : repB β b z) (hP : repP π z P) (I : invP Os C b z t s P) (hU : repC Os C t υ (kpA Os C t 6)) (ht : ∀ d, d < 18 → κ 0 d = nI (t d) ∧ t d < 100) (hv : ∀ d, d < 18 → κ 2 d = nI (dg t s d)) {j : Nat} (hj : j < (kpA Os C t 6).length) (hf : ∀ d, d < 18 → ve t (kU (kpA Os C t 6) j) d ≤ dg t s d) (post : St × St × (Nat → Int64) → Prop)
    (hp : ∀ κ2 π2 ρ2, (∀ d, d ≠ 2 → κ2 d = κ d) → (∀ d, d < 18 → κ2 2 d = nI (dg t (s - stp t (kU (kpA Os C t 6) j)) d)) → repP π2 z (useP Os C b z P (kU (kpA Os C t 6) j)) → post (κ2, π2, ρ2)) : wp_Planner_takeUse N κ υ β π ρ (nI j) post := by
  obtain ⟨hm, hlt⟩ := kpA_mem 6 (kU_mem hj)
  have hz1260 := hU.1.2.1
  obtain ⟨p1, p2, p3, p4, p5, p6⟩ := hU.1.2.2 j hj
  generalize hu : kU (kpA Os C t 6) j = u at *
  have hkO : kO (kpA Os C t 6) j = u.1 := by show (kU (kpA Os C t 6) j).1 = _; rw [hu]
  have hkL : kL (kpA Os C t 6) j = (srt (cn u) 12).length := by show (srt (cn (kU (kpA Os C t 6) j)) 12).length = _; rw [hu]
  have hkA : ∀ p, kA (kpA Os C t 6) j p = gA (cn u) p := fun p => by show gA (cn (kU (kpA Os C t 6) j)) p = _; rw [hu]
  have hkS : kS Os C (kpA Os C t 6) j = uP C u - uC Os C u := by show uP C (kU (kpA Os C t 6) j) - uC Os C (kU (kpA Os C t 6) j) = _; rw [hu]
  rw [hkO, hkL, hkA 0, hkA 1, hkA 2, hkA 3] at p1 p2
  rw [hkS] at p3
  obtain ⟨a1, a2, a3, a4, a5, a6⟩ := allU_el hO hm
  have hlen : (srt (cn u) 12).length = u.2.length := by rw [srt_len, sm_count u.2 a5]
  have hcu := use_cnt hO I hm hf
  have hms := mem_sum hO I hm hf
  have hz := hB.1
  have hj31 : j < 1260 := by omega
  have hsrtx : ∀ x ∈ srt (cn u) 12, x < 12 := srt_lt (cn u) 12
  have hcs : ∀ p a, ((srt (cn u) 12).take p).count a ≤ u.2.count a := fun p a => by
    have h1 : ((srt (cn u) 12).take p).count a ≤ (srt (cn u) 12).count a := List.Sublist.count_le a (List.take_sublist _ _)
    rw [srt_count] at h1
    split at h1
    · exact h1
    · omega
  -- the loop over the places
  have loop : ∀ (n p : Nat) (κ1 π1 : St), p ≤ (srt (cn u) 12).length → (srt (cn u) 12).length - p < n → (∀ d, d ≠ 2 → κ1 d = κ d) → (∀ d, d < 18 → κ1 2 d = nI (dg t s d - ((srt (cn u) 12).take p).count d)) → (∀ i, i < z → π1 0 i = (if takeG b z (psG P) ((srt (cn u) 12).take p) i && !(psG P) i then nI u.1 else (psF P) i) ∧ π1 1 i = (if takeG b z (psG P) ((srt (cn u) 12).take p) i && !(psG P) i then nI (psn P) else (psU P) i) ∧ π1 2 i = nI ((psY P) i) ∧ π1 4 i = bI (takeG b z (psG P) ((srt (cn u) 12).take p) i)) → π1 3 0 = nI (psn P) → wp_Planner_takeUse_13 N υ β post n (nI j) (nI u.1) (nI p) κ1 π1 ρ := by
    intro n
    induction n with
    | zero => intro p κ1 π1 _ h; omega
    | succ n ih =>
      intro p κ1 π1 hpl hn kf k2 pj p30
      rw [wp_Planner_takeUse_13]
      refine pf_unitsOf N hj31 p1 p2 _ (pk_le (srt (cn u) 12).length p (fun hq => ?_) (fun hq => ?_))
      · have epl : p = (srt (cn u) 12).length := by omega
        rw [epl, List.take_length] at k2 pj
        have etk : takeG b z (psG P) (srt (cn u) 12) = takeG b z (psG P) u.2 := takeG_srt b z (psG P) a5
        rw [etk] at pj
        have hcnt : ∀ d, d < 12 → (srt (cn u) 12).count d = u.2.count d := fun d hd => by rw [srt_count, if_pos hd]
        have hcnt2 : ∀ d, 12 ≤ d → (srt (cn u) 12).count d = 0 := fun d hd => by rw [srt_count, if_neg (by omega)]
        obtain ⟨d1, d2⟩ := dg_sub I.hs hf
        have d2' : ∀ d, d < 18 → dg t (s - stp t u) d = dg t s d - ve t u d := d2
        have fin : ∀ κ3 : St, (∀ d, d ≠ 2 → κ3 d = κ d) → (∀ d, d < 18 → κ3 2 d = nI (dg t (s - stp t u) d)) → wp_Planner_takeUse_87 N υ β post (nI j) κ3 π1 ρ := by
          intro κ3 kf3 k23
          unfold wp_Planner_takeUse_87 wp_Uses_savingOf
          rw [nI_clamp (by omega), p3]
          refine ⟨vp_in_nI (by omega) (by decide), ?_⟩
          refine pf_endUse N hN ρ hz hB.2.1 (mem := memP b z (psG P) u.2) (Y := (psY P)) (sv := uP C u - uC Os C u) (sum := uP C u) (n := (psn P)) (fun i hi => ?_) (fun i hi => (pj i hi).2.2.1) I.hYb p30 hms (by omega) (by have := uP_le (u := u) hC a5 a4; omega) (by omega) _ (fun π2 ρ2 g1 g2 g3 => ?_)
          · rw [(pj i hi).2.1, p30]
            show (if memP b z (psG P) u.2 i then nI (psn P) else (psU P) i) = nI (psn P) ↔ memP b z (psG P) u.2 i = true
            have hn10 := I.hn
            by_cases hmi : memP b z (psG P) u.2 i = true
            · rw [if_pos hmi]; exact ⟨fun _ => hmi, fun _ => rfl⟩
            · rw [if_neg hmi]
              refine ⟨fun h => ?_, fun h => absurd h hmi⟩
              rcases I.hU i hi with h2 | ⟨m, m1, m2⟩
              · rw [h2] at h
                exact absurd h.symm (neM (by omega))
              · rw [m2] at h
                have := (eqL (by omega) (by omega)).mp h
                omega
          · refine hp κ3 π2 ρ2 kf3 k23 ⟨fun i hi => ⟨?_, ?_, g3 i hi, ?_⟩, g2⟩
            · rw [g1 0 (by decide) (by decide)]; exact (pj i hi).1
            · rw [g1 1 (by decide) (by decide)]; exact (pj i hi).2.1
            · rw [g1 4 (by decide) (by decide)]; exact (pj i hi).2.2.2
        refine pf_isLimited N υ a1 (by rw [kf 0 (by decide)]; exact (ht (12 + u.1) (by omega)).1) (ht (12 + u.1) (by omega)).2 _ ?_
        have hveo : ve t u (12 + u.1) = if 0 < t (12 + u.1) then 1 else 0 := by
          unfold ve
          rw [if_neg (by omega)]
          by_cases h0 : 0 < t (12 + u.1)
          · rw [if_pos ⟨rfl, h0⟩, if_pos h0]
          · rw [if_neg (fun q => h0 q.2), if_neg h0]
        have hvex : ∀ d, 12 ≤ d → d ≠ 12 + u.1 → ve t u d = 0 := fun d hd hne => by
          unfold ve
          rw [if_neg (by omega), if_neg (fun q => hne q.1)]
        have hvel : ∀ d, d < 12 → ve t u d = u.2.count d := fun d hd => by unfold ve; rw [if_pos hd]
        by_cases h0 : 0 < t (12 + u.1)
        · rw [if_pos h0] at hveo ⊢
          refine ⟨fun h => absurd h (by decide), fun _ => ?_⟩
          rw [show (12 : Int32) = nI 12 from rfl, nI_add, nI_clamp (by omega)]
          have hin : vp_in (nI (12 + u.1)) 18 := vp_in_nI (by omega) (by decide)
          refine ⟨hin, hin, fun κ11 e11 => fin κ11 (fun d hd => by rw [e11, s2_comp _ _ _ _ hd]; exact kf d hd) (fun d hd => ?_)⟩
          have hfo := hf (12 + u.1) (by omega)
          by_cases e : d = 12 + u.1
          · subst e
            rw [e11, s2_same, k2 _ hd, hcnt2 _ (by omega), Nat.sub_zero, d2' _ hd, hveo, show (1 : Int32) = nI 1 from rfl, pk_sub (by omega)]
          · rw [e11, s2_ne _ _ _ _ (Or.inr e), k2 d hd, d2' d hd]
            by_cases h12 : d < 12
            · rw [hcnt d h12, hvel d h12]
            · rw [hcnt2 d (by omega), hvex d (by omega) e]
        · rw [if_neg h0] at hveo ⊢
          refine ⟨fun _ => fin κ1 kf (fun d hd => ?_), fun h => absurd rfl h⟩
          rw [k2 d hd, d2' d hd]
          by_cases h12 : d < 12
          · rw [hcnt d h12, hvel d h12]
          · rw [hcnt2 d (by omega)]
            by_cases e : d = 12 + u.1
            · subst e; rw [hveo]
            · rw [hvex d (by omega) e]
      · refine pf_articleOf N hj31 (by omega) p1 p2 _ ?_
        rw [ap_get (cn u) (by omega)]
        have hx : gA (cn u) p < 12 := gA_lt p
        have etk : (srt (cn u) 12).take (p + 1) = (srt (cn u) 12).take p ++ [gA (cn u) p] := tk_snoc hq
        have hstep : takeG b z (psG P) ((srt (cn u) 12).take (p + 1)) = stG b z (takeG b z (psG P) ((srt (cn u) 12).take p)) (gA (cn u) p) := by
          rw [etk]
          unfold takeG
          rw [List.foldl_append]
          rfl
        have hcp : ∀ a, ((srt (cn u) 12).take p).count a ≤ ug (psG P) b a z := fun a => Nat.le_trans (hcs p a) (hcu a)
        obtain ⟨t1, t2, t3⟩ := take_all (C := C) (G0 := (psG P)) ((srt (cn u) 12).take p) (psG P) (fun _ h => h) hcp
        have hcp1 := hcs (p + 1) (gA (cn u) p)
        rw [etk, cnt_snoc, if_pos rfl] at hcp1
        have hfo : fo (takeG b z (psG P) ((srt (cn u) 12).take p)) b (gA (cn u) p) z < z := by
          refine ug_pos z ?_
          have h1 := t2 (gA (cn u) p)
          have h2 := hcu (gA (cn u) p)
          omega
        have hGf := (fo_lt (G := takeG b z (psG P) ((srt (cn u) 12).take p)) (b := b) (a := gA (cn u) p) z hfo).1.1
        unfold wp_Plan_takeIntoUse
        refine pf_takeFirst N (by omega) ρ hB hx (fun i hi => (pj i hi).2.2.2) hfo _ (fun π2 e2 => ⟨fun h => absurd h (neM (by omega)), fun _ => ?_⟩)
        have hi10 : vp_in (nI (fo (takeG b z (psG P) ((srt (cn u) 12).take p)) b (gA (cn u) p) z)) 10 := vp_in_nI (by omega) (by decide)
        rw [nI_clamp (by omega)]
        refine ⟨hi10, fun π5 e5 => ⟨hi10, fun π7 e7 => ?_⟩⟩
        rw [nI_clamp (by omega), nI_1]
        have hin : vp_in (nI (gA (cn u) p)) 18 := vp_in_nI (by omega) (by decide)
        refine ⟨hin, hin, fun κ18 e18 => ?_⟩
        refine ih (p + 1) κ18 π7 (by omega) (by omega) (fun d hd => by rw [e18, s2_comp _ _ _ _ hd]; exact kf d hd) (fun d hd => ?_) (fun i hi => ?_) ?_
        · rw [etk, cnt_snoc]
          by_cases e : gA (cn u) p = d
          · subst e
            have hfd := hf (gA (cn u) p) (by omega)
            have hvel : ve t u (gA (cn u) p) = u.2.count (gA (cn u) p) := by unfold ve; rw [if_pos hx]
            rw [e18, s2_same, k2 _ hd, if_pos rfl, show (1 : Int32) = nI 1 from rfl, pk_sub (by omega), Nat.sub_sub]
          · rw [e18, s2_ne _ _ _ _ (Or.inr (fun h => e h.symm)), k2 d hd, if_neg e, Nat.add_zero]
        · obtain ⟨q1, q2, q3, q4⟩ := pj i hi
          have c0 : π7 0 = π5 0 := by rw [e7, s2_comp _ _ _ _ (by decide)]
          have c2 : π7 2 = π1 2 := by rw [e7, s2_comp _ _ _ _ (by decide), e5, s2_comp _ _ _ _ (by decide), e2, s2_comp _ _ _ _ (by decide)]
          have c4 : π7 4 = s2 π1 4 (fo (takeG b z (psG P) ((srt (cn u) 12).take p)) b (gA (cn u) p) z) (nI 1) 4 := by rw [e7, s2_comp _ _ _ _ (by decide), e5, s2_comp _ _ _ _ (by decide), e2]
          have h4 := stG_rep (fun i hi => (pj i hi).2.2.2) c4 i hi
          have hP3 : π5 3 0 = nI (psn P) := by rw [e5, s2_comp _ _ _ _ (by decide), e2, s2_comp _ _ _ _ (by decide)]; exact p30
          have hPG : (psG P) (fo (takeG b z (psG P) ((srt (cn u) 12).take p)) b (gA (cn u) p) z) = false := t1 _ hGf
          rw [hstep]
          refine ⟨?_, ?_, by rw [c2]; exact q3, h4⟩
          · rw [c0]
            unfold stG
            by_cases e : i = fo (takeG b z (psG P) ((srt (cn u) 12).take p)) b (gA (cn u) p) z
            · rw [← e] at hPG ⊢
              rw [decide_eq_true rfl, Bool.or_true, hPG, e5, ← e, s2_same]
              rfl
            · rw [decide_eq_false e, Bool.or_false, e5, s2_ne _ _ _ _ (Or.inr e), e2, s2_comp _ _ _ _ (by decide)]; exact q1
          · unfold stG
            by_cases e : i = fo (takeG b z (psG P) ((srt (cn u) 12).take p)) b (gA (cn u) p) z
            · rw [← e] at hPG ⊢
              rw [decide_eq_true rfl, Bool.or_true, hPG, e7, ← e, s2_same, hP3]
              rfl
            · rw [decide_eq_false e, Bool.or_false, e7, s2_ne _ _ _ _ (Or.inr e), e5, s2_comp _ _ _ _ (by decide), e2, s2_comp _ _ _ _ (by decide)]; exact q2
        · rw [e7, s2_comp _ _ _ _ (by decide), e5, s2_comp _ _ _ _ (by decide), e2, s2_comp _ _ _ _ (by decide)]; exact p30
  unfold wp_Planner_takeUse
  refine pf_offerOf N hj31 p1 p2 _ ?_
  refine loop N 0 κ π (Nat.zero_le _) (by omega) (fun _ _ => rfl) (fun d hd => by rw [List.take_zero, List.count_nil, Nat.sub_zero]; exact hv d hd) (fun i hi => ?_) hP.2
  obtain ⟨q1, q2, q3, q4⟩ := hP.1 i hi
  rw [List.take_zero]
  show π 0 i = (if (psG P) i && !(psG P) i then nI u.1 else (psF P) i) ∧ π 1 i = (if (psG P) i && !(psG P) i then nI (psn P) else (psU P) i) ∧ π 2 i = nI ((psY P) i) ∧ π 4 i = bI ((psG P) i)
  rw [Bool.and_not_self, if_neg (by decide), if_neg (by decide)]
  exact ⟨q1, q2, q3, q4⟩
