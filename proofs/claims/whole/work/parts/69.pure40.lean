/-! the class: the choice at a state; fillPlan -/
/-- of the kept uses the class's test is the reference's -/
theorem kept_Pu {Os : Nat → Nat → Nat} {C t : Nat → Nat} (hO : ∀ i, i < 6 → okO (Os i)) {s a : Nat} (hs : s < str t 18) (ha : a < 12) (hb : ∀ b, b < a → dg t s b = 0) {w : Us} (hw : w ∈ kpA Os C t 6) : (gA (cn w) 0 = a ∧ leB (ve t w) (dg t s) 18 = true ∧ (uP C w - uC Os C w) + SV Os C t (s - stp t w) = SV Os C t s) ↔ Pu Os C t s a w = true := by
  obtain ⟨h1, h2⟩ := kpA_mem 6 hw
  obtain ⟨a1, a2, a3, a4, a5, a6⟩ := allU_el hO h1
  have hlen : 0 < (srt (cn w) 12).length := by
    rw [srt_len, sm_count w.2 a5]; omega
  have eqn : (∀ d, d < 18 → ve t w d ≤ dg t s d) → ((uP C w - uC Os C w) + SV Os C t (s - stp t w) = SV Os C t s ↔ uC Os C w + LT Os C t (s - stp t w) = LT Os C t s) := by
    intro hf
    obtain ⟨d1, d2⟩ := dg_sub hs hf
    have d1' : stp t w ≤ s := d1
    have hW := W_sub (C := C) hs hf
    rw [ve_pr] at hW
    have hW' : pr C (dg t s) 12 = uP C w + pr C (dg t (s - stp t w)) 12 := hW
    have e1 := SV_LT (C := C) hO hs
    have e2 := SV_LT (C := C) hO (show s - stp t w < str t 18 by omega)
    omega
  rw [Pu_iff]
  constructor
  · rintro ⟨g1, g2, g3⟩
    have hf := (leB_iff _ _ 18).mp g2
    refine ⟨g2, ?_, (eqn hf).mp g3⟩
    have := gA_pos hlen
    rw [g1] at this
    exact List.count_pos_iff.mp this
  · rintro ⟨g1, g2, g3⟩
    have hf := fitV_iff.mp g1
    refine ⟨gA_0 ha (List.count_pos_iff.mpr g2) (fun b hba => ?_), g1, (eqn hf).mpr g3⟩
    have := hf b (by omega)
    have hve : ve t w b = w.2.count b := by unfold ve; rw [if_pos (by omega)]
    rw [hve, hb b hba] at this
    show w.2.count b = 0
    omega
theorem kept_find {Os : Nat → Nat → Nat} {C t : Nat → Nat} (hO : ∀ i, i < 6 → okO (Os i)) {s a : Nat} (hs : s < str t 18) (ha : a < 12) (hd : 0 < dg t s a) (hb : ∀ b, b < a → dg t s b = 0) (hne : SV Os C t (s - str t a) ≠ SV Os C t s) : (kpA Os C t 6).find? (Pu Os C t s a) = chs Os C t s a := by
  have e1 : (kpA Os C t 6).find? (Pu Os C t s a) = (kpA Os C t 6).find? (fun w => Pu Os C t s a w && decide (uC Os C w < uP C w)) := find_congr _ (fun u hu => by
    show _ = (Pu Os C t s a u && decide (uC Os C u < uP C u))
    rw [decide_eq_true (kpA_mem 6 hu).2, Bool.and_true])
  have e2 : (allU Os t 6).find? (fun w => Pu Os C t s a w && decide (uC Os C w < uP C w)) = (allU Os t 6).find? (Pu Os C t s a) := find_congr _ (fun u hu => by
    show (Pu Os C t s a u && decide (uC Os C u < uP C u)) = _
    by_cases hP : Pu Os C t s a u = true
    · rw [decide_eq_true (Pu_sav hO hs ha hd hb hne hu hP).1, Bool.and_true]
    · have : Pu Os C t s a u = false := by simpa using hP
      rw [this, Bool.false_and])
  unfold chs
  rw [if_neg hne, e1, kpA_find _ (fun u hu => by
    rw [Bool.and_eq_true] at hu
    exact of_decide_eq_true hu.2) (fun u w huw => ?_) 6, e2]
  show (Pu Os C t s a u && decide (uC Os C u < uP C u)) = (Pu Os C t s a w && decide (uC Os C w < uP C w))
  unfold Pu fitV
  rw [sam_ve huw, sam_uC huw, sam_uP huw, sam_stp huw]
  have : decide (a ∈ u.2) = decide (a ∈ w.2) := by
    refine decide_eq_decide.mpr ?_
    rw [← List.count_pos_iff, ← List.count_pos_iff, huw.2 a ha]
  rw [this]
theorem chs_fst {Os : Nat → Nat → Nat} {C t : Nat → Nat} (hO : ∀ i, i < 6 → okO (Os i)) {s a : Nat} (hs : s < str t 18) (ha : a < 12) (hd : 0 < dg t s a) (hb : ∀ b, b < a → dg t s b = 0) (hne : SV Os C t (s - str t a) ≠ SV Os C t s) : ∃ j, j < (kpA Os C t 6).length ∧ fst1 t (dg t s) (kO (kpA Os C t 6)) (kL (kpA Os C t 6)) (kA (kpA Os C t 6)) (kS Os C (kpA Os C t 6)) (kT t (kpA Os C t 6)) (SV Os C t) s (SV Os C t s) (chK (kpA Os C t 6) a) = some j ∧ chs Os C t s a = some (kU (kpA Os C t 6) j) := by
  have hfind := kept_find hO hs ha hd hb hne
  have hiff : ∀ i, i < (kpA Os C t 6).length → (Pu Os C t s a (kU (kpA Os C t 6) i) = true ↔ i ∈ chK (kpA Os C t 6) a ∧ fitsU t (dg t s) (kO (kpA Os C t 6) i) (kL (kpA Os C t 6) i) (apj (kA (kpA Os C t 6)) i) = true ∧ kS Os C (kpA Os C t 6) i + SV Os C t (s - kT t (kpA Os C t 6) i) = SV Os C t s) := by
    intro i hi
    rw [← kept_Pu hO hs ha hb (kU_mem hi), kept_fits hO hi]
    exact ⟨fun ⟨g1, g2, g3⟩ => ⟨chK_mem hi g1, g2, g3⟩, fun ⟨g1, g2, g3⟩ => ⟨(chK_lt g1).2, g2, g3⟩⟩
  cases hf : fst1 t (dg t s) (kO (kpA Os C t 6)) (kL (kpA Os C t 6)) (kA (kpA Os C t 6)) (kS Os C (kpA Os C t 6)) (kT t (kpA Os C t 6)) (SV Os C t) s (SV Os C t s) (chK (kpA Os C t 6) a) with
  | none =>
    exfalso
    have h1 := fst1_none _ hf
    have h2 : (kpA Os C t 6).find? (Pu Os C t s a) = none := find_no _ (fun i hi hP => by
      obtain ⟨g1, g2, g3⟩ := (hiff i hi).mp hP
      exact h1 i g1 ⟨g2, g3⟩)
    rw [hfind] at h2
    exact hne (chs_none hO hs ha hd hb h2)
  | some j =>
    obtain ⟨ch1, ch2, e, g1, g2, g3⟩ := fst1_some _ j hf
    have hjm : j ∈ chK (kpA Os C t 6) a := by rw [e]; exact List.mem_append.mpr (Or.inr List.mem_cons_self)
    have hj := (chK_lt hjm).1
    refine ⟨j, hj, rfl, ?_⟩
    rw [← hfind]
    refine find_at _ j hj ((hiff j hj).mpr ⟨hjm, g1, g2⟩) (fun i hi hP => ?_)
    obtain ⟨q1, q2, q3⟩ := (hiff i (by omega)).mp hP
    have hsort : List.Pairwise (fun x y => x < y) (chK (kpA Os C t 6) a) := List.Pairwise.filter _ List.pairwise_lt_range
    rw [e] at q1 hsort
    rcases List.mem_append.mp q1 with q | q
    · exact g3 i q ⟨q2, q3⟩
    · rcases List.mem_cons.mp q with q | q
      · omega
      · have := (List.pairwise_cons.mp (List.pairwise_append.mp hsort).2.1).1 i q
        omega
theorem pf_fillPlan (N : Nat) (hN : 3001 ≤ N) {κ υ β π : St} (ρ : Nat → Int64) {Os : Nat → Nat → Nat} {C b : Nat → Nat} {z : Nat} {P0 : PS} (hO : ∀ i, i < 6 → okO (Os i)) (hC : ∀ a, a < 12 → C a ≤ 100000) (hB : repB β b z) (h3000 : str (tN Os b z) 18 ≤ 3000) (hv : solved Os C (tN Os b z) z κ υ) (hP : repP π z P0) (I0 : invP Os C b z (tN Os b z) (fullS (tN Os b z)) P0) (post : St × St × (Nat → Int64) → Prop)
    (hp : ∀ κ2 π2 ρ2, repP π2 z (planF Os C b z (tN Os b z) z (fullS (tN Os b z), P0)).2 → post (κ2, π2, ρ2)) : wp_Planner_fillPlan N κ υ β π ρ post := by
  obtain ⟨v0, v3, v5, vC, v1⟩ := hv
  have hz := hB.1
  have hsm := tN_sm Os b hz
  have ht : ∀ d, d < 18 → tN Os b z d < 100 := by
    intro d hd
    by_cases h : d < 12
    · have := dg_100 hsm (fullS (tN Os b z)) d h
      rw [dg_full _ (by omega)] at this; exact this
    · obtain ⟨o, rfl⟩ : ∃ o, d = 12 + o := ⟨d - 12, by omega⟩
      have := tN_5 (b := b) (z := z) hO (show o < 6 by omega)
      omega
  have hdg : ∀ s d, d < 18 → dg (tN Os b z) s d < 100 := fun s d hd => by
    have := dg_le (tN Os b z) s d
    have := ht d hd
    omega
  have hlen : ∀ a, (chK (kpA Os C (tN Os b z) 6) a).length ≤ 1260 := fun a => by
    refine Nat.le_trans (List.length_filter_le _ _) ?_
    rw [List.length_range]; exact vC.1.2.1
  have loop : ∀ (n k : Nat) (s : Nat) (P : PS) (κ1 π1 : St) (ρ : Nat → Int64), k ≤ z → z - k < n → (∀ d, d ≠ 2 → κ1 d = κ d) → (∀ d, d < 18 → κ1 2 d = nI (dg (tN Os b z) s d)) → repP π1 z P → invP Os C b z (tN Os b z) s P → planF Os C b z (tN Os b z) (z - k) (s, P) = planF Os C b z (tN Os b z) z (fullS (tN Os b z), P0) → wp_Planner_fillPlan_23 N υ β post n (nI s) (nI k) κ1 π1 ρ := by
    intro n
    induction n with
    | zero => intro k s P κ1 π1 ρ _ h; omega
    | succ n ih =>
      intro k s P κ1 π1 ρ hk hn kf k2 hP1 I hfin
      have hs := I.hs
      rw [wp_Planner_fillPlan_23, hB.2.1]
      refine pk_le z k (fun hq => ?_) (fun hq => ?_)
      · have e : z - k = 0 := by omega
        rw [e] at hfin
        have hfin2 : (s, P) = planF Os C b z (tN Os b z) z (fullS (tN Os b z), P0) := hfin
        refine hp κ1 π1 ρ ?_
        rw [← hfin2]; exact hP1
      · have hst := v1 (by omega)
        obtain ⟨q, hq2⟩ : ∃ q, z - k = q + 1 := ⟨z - k - 1, by omega⟩
        rw [hq2] at hfin
        have hpl : planF Os C b z (tN Os b z) (q + 1) (s, P) = if laF (dg (tN Os b z) s) 12 < 12 then planF Os C b z (tN Os b z) q (stpP Os C b z (tN Os b z) s P (laF (dg (tN Os b z) s) 12)) else (s, P) := rfl
        rw [hpl] at hfin
        have kd : ∀ d, d < 18 → κ1 2 d = nI (dg (tN Os b z) s d) ∧ dg (tN Os b z) s d < 100 := fun d hd => ⟨k2 d hd, hdg s d hd⟩
        have kt : ∀ d, d < 18 → κ1 0 d = nI (tN Os b z d) ∧ tN Os b z d < 100 := fun d hd => ⟨by rw [kf 0 (by decide)]; exact v0 d hd, ht d hd⟩
        refine pf_leastLeft N (by omega) υ (fun d hd => kd d (by omega)) _ (fun a ha hda hba => ?_) (fun hb0 => ?_)
        · refine ⟨fun _ => ?_, fun h => absurd h (neM1 (by omega))⟩
          have ela : laF (dg (tN Os b z) s) 12 = a := by rw [laF_at hda hba, if_pos ha]
          rw [ela, if_pos ha] at hfin
          obtain ⟨al1, al2⟩ := alone_dg hs ha hda
          have hpa := str_pos (tN Os b z) a
          refine pf_firstBestUse N (by omega) (st := str (tN Os b z)) (S := SV Os C (tN Os b z)) kt kd (fun d hd => by rw [kf 1 (by decide)]; exact hst d hd) vC.1 (by omega) (fun s2 hs2 => ⟨by rw [kf 3 (by decide)]; exact v3 s2 (by omega), SV_le hO hC hsm (by omega)⟩) ha ⟨al1, hpa⟩ ⟨(vC.2 a ha).1, hlen a⟩ (fun i hi hfi => ?_) _ (fun heq => ?_) (fun hne => ?_)
          · have hi2 := (chK_lt hi).1
            rw [kept_fits hO hi2] at hfi
            exact ⟨(dg_sub hs ((leB_iff _ _ 18).mp hfi)).1, stp_pos hO (kpA_mem 6 (kU_mem hi2)).1⟩
          · -- alone
            have hchs : chs Os C (tN Os b z) s a = none := if_pos heq
            have hstp : stpP Os C b z (tN Os b z) s P a = (s - str (tN Os b z) a, aloP b z P a) := by unfold stpP; rw [hchs]
            rw [hstp] at hfin
            obtain ⟨I2, hfo⟩ := inv_alone I ha hda heq
            refine ⟨fun h => absurd rfl h, fun _ => ?_⟩
            unfold wp_Plan_takeAlone
            refine pf_takeFirst N (by omega) ρ hB ha (fun i hi => (hP1.1 i hi).2.2.2) hfo _ (fun π2 e2 => ?_)
            have hin : vp_in (nI a) 18 := vp_in_nI (by omega) (by decide)
            rw [nI_clamp (by omega)]
            refine ⟨hin, hin, fun κ17 e17 => ⟨hin, ?_⟩⟩
            have hk1 : κ17 1 a = nI (str (tN Os b z) a) := by rw [e17, s2_comp _ _ _ _ (by decide), kf 1 (by decide)]; exact hst a (by omega)
            unfold wp_Planner_fillPlan_111
            rw [hk1, pk_sub al1, nI_1]
            refine ih (k + 1) _ (aloP b z P a) κ17 π2 ρ (by omega) (by omega) (fun d hd => by rw [e17, s2_comp _ _ _ _ hd]; exact kf d hd) (fun d hd => ?_) ⟨fun i hi => ?_, ?_⟩ I2 (by rw [show z - (k + 1) = q by omega]; exact hfin)
            · rw [al2 d hd]
              unfold unitV
              by_cases e : d = a
              · subst e
                rw [e17, s2_same, k2 d hd, if_pos rfl, show (1 : Int32) = nI 1 from rfl, pk_sub (by omega)]
              · rw [e17, s2_ne _ _ _ _ (Or.inr e), k2 d hd, if_neg e, Nat.sub_zero]
            · obtain ⟨q1, q2, q3, q4⟩ := hP1.1 i hi
              have c : ∀ d, d ≠ 4 → π2 d = π1 d := fun d hd => by rw [e2, s2_comp _ _ _ _ hd]
              rw [c 0 (by decide), c 1 (by decide), c 2 (by decide)]
              exact ⟨q1, q2, q3, stG_rep (fun i hi => (hP1.1 i hi).2.2.2) (by rw [e2]) i hi⟩
            · rw [e2, s2_comp _ _ _ _ (by decide)]; exact hP1.2
          · obtain ⟨j, hj, hf1, hchs⟩ := chs_fst (C := C) hO hs ha hda hba hne
            have hstp : stpP Os C b z (tN Os b z) s P a = (s - stp (tN Os b z) (kU (kpA Os C (tN Os b z) 6) j), useP Os C b z P (kU (kpA Os C (tN Os b z) 6) j)) := by unfold stpP; rw [hchs]
            rw [hstp] at hfin
            obtain ⟨u1, u2, u3, u4, u5, u6⟩ := chs_some hO hs ha hda hba hchs
            rw [hf1]
            show (¬ nI j = -1 → _) ∧ (nI j = -1 → _)
            have hjz := vC.1.2.1
            refine ⟨fun _ => ?_, fun h => absurd h (neM (by omega))⟩
            refine pf_PtakeUse N (by omega) ρ hO hC hB hP1 I vC kt k2 hj u2 _ (fun κ2 π2 ρ2 g1 g2 g3 => ?_)
            unfold wp_Uses_stepOf
            obtain ⟨-, -, -, p4, -, -⟩ := vC.1.2.2 j hj
            rw [show Int32.toNatClampNeg (optI (some j)) = j from nI_clamp (by omega), p4]
            refine ⟨vp_in_nI (by omega) (by decide), ?_⟩
            unfold wp_Planner_fillPlan_111
            show wp_Planner_fillPlan_23 N υ β post n (nI s - nI (stp (tN Os b z) (kU (kpA Os C (tN Os b z) 6) j))) (nI k + 1) κ2 π2 ρ2
            rw [pk_sub u5, nI_1]
            exact ih (k + 1) _ _ κ2 π2 ρ2 (by omega) (by omega) (fun d hd => by rw [g1 d hd]; exact kf d hd) g2 g3 (inv_use hO I u1 u2 u4 u6) (by rw [show z - (k + 1) = q by omega]; exact hfin)
        · refine ⟨fun h => absurd rfl h, fun _ => ?_⟩
          rw [laF_no 12 hb0, if_neg (by omega)] at hfin
          refine hp κ1 π1 ρ ?_
          rw [← hfin]; exact hP1
  unfold wp_Planner_fillPlan
  intro κ1 e1
  have e5 : κ 5 0 = nI (fullS (tN Os b z)) := v5
  rw [e5]
  refine loop N 0 (fullS (tN Os b z)) P0 κ1 π ρ (Nat.zero_le _) (by omega) (fun d hd => by rw [e1, up_ne _ _ hd]) (fun d hd => ?_) hP I0 rfl
  rw [e1, up_same, dg_full _ hd]
  have : va_cpy (κ 0) (κ 2) (Int32.toNatClampNeg 0) (Int32.toNatClampNeg 0) (Int32.toNatClampNeg 18) d = κ 0 (0 + (d - 0)) := pk_cpy_in (by exact Nat.zero_le _) (by show d < 0 + 18; omega)
  rw [this, Nat.zero_add, Nat.sub_zero]
  exact v0 d hd
def P0s (C b : Nat → Nat) (z : Nat) : PS := (fun _ => false, fun _ => -1, fun _ => -1, fun j => if j < z then C (b j) else 0, 0)
theorem ug_cnt (b : Nat → Nat) {a : Nat} (ha : a < 12) : ∀ z, (∀ i, i < z → b i < 12) → ug (fun _ => false) b a z = cnt (nB b) (nI a) z := by
  intro z
  induction z with
  | zero => intro _; rfl
  | succ z ih =>
    intro h
    have hb := h z (by omega)
    show ug (fun _ => false) b a z + (if false = false ∧ b z = a then 1 else 0) = cnt (nB b) (nI a) z + (if nI (b z) = nI a then 1 else 0)
    rw [ih (fun i hi => h i (by omega))]
    by_cases e : b z = a
    · rw [if_pos ⟨rfl, e⟩, if_pos (by rw [e])]
    · rw [if_neg (fun q => e q.2), if_neg (fun q => e ((eqL (by omega) (by omega)).mp q))]
theorem ys_bp (C b : Nat → Nat) : ∀ z, ys (fun j => C (b j)) z = bp C b z := by
  intro z
  induction z with
  | zero => rfl
  | succ z ih => show ys _ z + C (b z) = bp C b z + C (b z); rw [ih]
theorem inv_0 {Os : Nat → Nat → Nat} {C b : Nat → Nat} {z : Nat} (hC : ∀ a, a < 12 → C a ≤ 100000) (hz : z ≤ 10) (hb : ∀ i, i < z → b i < 12) : invP Os C b z (tN Os b z) (fullS (tN Os b z)) (P0s C b z) := by
  refine ⟨full_lt _, fun a ha h0 => ?_, fun j hj _ => if_pos hj, fun j => ?_, fun j _ => Or.inl rfl, ?_, ?_⟩
  · rw [dg_full _ (by omega), tN_cnt ha h0]
    exact ug_cnt b ha z hb
  · show (if j < z then C (b j) else 0) ≤ 100000
    split
    · exact hC _ (hb j (by assumption))
    · omega
  · show 0 + sm (dg (tN Os b z) (fullS (tN Os b z))) 12 ≤ 10
    rw [sm_congr (f := tN Os b z) 12 (fun d hd => dg_full _ (by omega)), Nat.zero_add]
    exact tN_sm Os b hz
  · have : ys (psY (P0s C b z)) z = bp C b z := by
      rw [← ys_bp C b z]
      exact ys_congr z (fun j hj => if_pos hj)
    rw [this]
theorem pf_leaveAll (N : Nat) (hN : 11 ≤ N) {π τ β : St} (ρ : Nat → Int64) {C b : Nat → Nat} {z : Nat} (hB : repB β b z) (hτ : ∀ a, a < 12 → τ 0 a = nI (C a)) (post : St → Prop) (hp : ∀ π2, repP π2 z (P0s C b z) → post π2) : wp_Plan_leaveAllAlone N π ρ τ β post := by
  obtain ⟨hz, hb1, hb⟩ := hB
  have loop : ∀ (n i : Nat) (w : St), i ≤ z → z - i < n → w 3 0 = nI 0 → (∀ j, j < i → w 0 j = -1 ∧ w 1 j = -1 ∧ w 2 j = nI (C (b j)) ∧ w 4 j = nI 0) → wp_Plan_leaveAllAlone_7 N ρ τ β post n (nI i) w := by
    intro n
    induction n with
    | zero => intro i w _ h; omega
    | succ n ih =>
      intro i w hi hn w3 wj
      rw [wp_Plan_leaveAllAlone_7, hb1]
      refine pk_le z i (fun hq => ?_) (fun hq => ?_)
      · have : i = z := by omega
        subst this
        refine hp w ⟨fun j hj => ?_, w3⟩
        obtain ⟨q1, q2, q3, q4⟩ := wj j hj
        refine ⟨q1, q2, ?_, q4⟩
        rw [q3]
        show nI (C (b j)) = nI (if j < i then C (b j) else 0)
        rw [if_pos hj]
      · obtain ⟨x1, x2⟩ := hb i hq
        have hin : vp_in (nI i) 10 := vp_in_nI (by omega) (by decide)
        rw [nI_clamp (show i < 2 ^ 31 by omega), x1, nI_clamp (by omega), hτ _ x2, nar_0, nI_1]
        refine ⟨hin, fun π4 e4 => ⟨hin, fun π6 e6 => ⟨hin, vp_in_nI x2 (by decide), hin, fun π10 e10 => ⟨hin, fun π12 e12 => ?_⟩⟩⟩⟩
        refine ih (i + 1) π12 (by omega) (by omega) ?_ (fun j hj => ?_)
        · rw [e12, s2_comp _ _ _ _ (by decide), e10, s2_comp _ _ _ _ (by decide), e6, s2_comp _ _ _ _ (by decide), e4, s2_comp _ _ _ _ (by decide)]; exact w3
        · by_cases e : j = i
          · subst e
            refine ⟨?_, ?_, ?_, ?_⟩
            · rw [e12, s2_comp _ _ _ _ (by decide), e10, s2_comp _ _ _ _ (by decide), e6, s2_comp _ _ _ _ (by decide), e4, s2_same]
            · rw [e12, s2_comp _ _ _ _ (by decide), e10, s2_comp _ _ _ _ (by decide), e6, s2_same]
            · rw [e12, s2_comp _ _ _ _ (by decide), e10, s2_same]
            · rw [e12, s2_same]
          · obtain ⟨q1, q2, q3, q4⟩ := wj j (by omega)
            rw [e12, s2_ne _ _ _ _ (Or.inr e), s2_ne _ _ _ _ (Or.inr e), s2_ne _ _ _ _ (Or.inr e), s2_ne _ _ _ _ (Or.inr e), e10, s2_ne _ _ _ _ (Or.inr e), s2_ne _ _ _ _ (Or.inr e), s2_ne _ _ _ _ (Or.inr e), s2_ne _ _ _ _ (Or.inr e), e6, s2_ne _ _ _ _ (Or.inr e), s2_ne _ _ _ _ (Or.inr e), s2_ne _ _ _ _ (Or.inr e), s2_ne _ _ _ _ (Or.inr e), e4, s2_ne _ _ _ _ (Or.inr e), s2_ne _ _ _ _ (Or.inr e), s2_ne _ _ _ _ (Or.inr e), s2_ne _ _ _ _ (Or.inr e)]
            exact ⟨q1, q2, q3, q4⟩
  unfold wp_Plan_leaveAllAlone
  intro π1 e1
  exact loop N 0 π1 (by omega) (by omega) (by rw [e1, s2_same]; rfl) (fun j hj => by omega)
theorem pf_paidIn (N : Nat) (hN : 11 ≤ N) {π β : St} (ρ : Nat → Int64) {b : Nat → Nat} {z : Nat} (hB : repB β b z) {Y : Nat → Nat} (hY : ∀ j, j < z → π 2 j = nI (Y j)) (post : Int32 → Unit → Prop) (hp : post (nI (ys Y z)) ()) : wp_Plan_paidIn N π ρ β post := by
  obtain ⟨hz, hb1, hb⟩ := hB
  have loop : ∀ (n i : Nat), i ≤ z → z - i < n → wp_Plan_paidIn_4 N π ρ β post n (nI (ys Y i)) (nI i) := by
    intro n
    induction n with
    | zero => intro i _ h; omega
    | succ n ih =>
      intro i hi hn
      rw [wp_Plan_paidIn_4, hb1]
      refine pk_le z i (fun hq => ?_) (fun hq => ?_)
      · have : i = z := by omega
        subst this; exact hp
      · rw [nI_clamp (by omega), hY i hq, nI_add, nI_1]
        exact ⟨vp_in_nI (by omega) (by decide), ih (i + 1) (by omega) (by omega)⟩
  exact loop N 0 (by omega) (by omega)
/-- the plan that counts -/
def planP (Os : Nat → Nat → Nat) (C b : Nat → Nat) (z : Nat) : PS := (planF Os C b z (tN Os b z) z (fullS (tN Os b z), P0s C b z)).2
theorem sm_tN_le (Os : Nat → Nat → Nat) (b : Nat → Nat) (z : Nat) : sm (dg (tN Os b z) (fullS (tN Os b z))) 12 ≤ z := by
  rw [sm_congr (f := tN Os b z) 12 (fun d hd => dg_full _ (by omega))]
  by_cases h : z = 0
  · subst h
    have e : sm (tN Os b 0) 12 = sm (fun _ => 0) 12 := sm_congr 12 (fun d _ => if_pos rfl)
    rw [e, sm_zero]; exact Nat.le_refl _
  · have e : sm (tN Os b z) 12 = sm (tp Os (nB b) z) 12 := sm_congr 12 (fun d _ => if_neg h)
    rw [e]
    exact tp_sm Os (nB b) z
theorem planP_ok {Os : Nat → Nat → Nat} {C b : Nat → Nat} {z : Nat} (hO : ∀ i, i < 6 → okO (Os i)) (hC : ∀ a, a < 12 → C a ≤ 100000) (hz : z ≤ 10) (hb : ∀ i, i < z → b i < 12) : ys (psY (planP Os C b z)) z = TL Os C b z ∧ (∀ j, (psY (planP Os C b z)) j ≤ 100000) ∧ (psn (planP Os C b z)) ≤ 10 := by
  obtain ⟨I, h0⟩ := planF_end (b := b) (z := z) hO z (fullS (tN Os b z), P0s C b z) (inv_0 hC hz hb) (sm_tN_le Os b z)
  have h1 := SV_z (C := C) hO I.hs h0
  have h2 := I.hsum
  have h3 := TL_eq (C := C) hO hb
  have h4 := I.hn
  refine ⟨?_, I.hYb, ?_⟩
  · show ys (psY (planF Os C b z (tN Os b z) z (fullS (tN Os b z), P0s C b z)).2) z = _
    omega
  · show (psn (planF Os C b z (tN Os b z) z (fullS (tN Os b z), P0s C b z)).2) ≤ 10
    omega
/-- the class has found its plan -/
theorem pf_find (N : Nat) (hN : 100001 ≤ N) {κ υ τ β π : St} {ω : Nat → St} (ρ : Nat → Int64) {Os : Nat → Nat → Nat} {C b : Nat → Nat} {z : Nat} (hW : repW ω Os) (hτ : ∀ a, a < 12 → τ 0 a = nI (C a)) (hC : ∀ a, a < 12 → C a ≤ 100000) (hB : repB β b z) (h3000 : str (tN Os b z) 18 ≤ 3000) {st : Nat} (hS : repS υ st) (hst : st + 6 < 2 ^ 30) (Q : St → St → St → (Nat → Int64) → Prop)
    (hp : ∀ κ2 υ2 st2 π2 ρ2, st2 ≤ st + 6 → repS υ2 st2 → repP π2 z (planP Os C b z) → Q κ2 υ2 π2 ρ2) : wp_Plan_leaveAllAlone N π ρ τ β (fun u2 => wp_Planner_solve N κ υ τ ω β (fun u4 => wp_Planner_fillPlan N u4.1 u4.2 β u2 ρ (fun u6 => Q u6.1 u4.2 u6.2.1 u6.2.2))) := by
  have hO : ∀ i, i < 6 → okO (Os i) := fun i hi => (hW i hi).2.2
  refine pf_leaveAll N (by omega) ρ hB hτ _ (fun π2 hP2 => ?_)
  refine pf_solve N (by omega) hW hτ hC hB.1 hB.2.1 (room_N hB.2.2 h3000) hS hst _ (fun κ2 υ2 st2 h1 h2 hv => ?_)
  rw [tB_N hB.2.2] at hv
  exact pf_fillPlan N (by omega) ρ hO hC hB h3000 hv hP2 (inv_0 hC hB.1 (fun i hi => (hB.2.2 i hi).2)) _ (fun κ3 π3 ρ3 hP3 => hp κ3 υ2 st2 π3 ρ3 h1 h2 hP3)
