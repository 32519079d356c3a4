/-! solve: the greatest saving of every state -/
def SV (Os : Nat → Nat → Nat) (C t : Nat → Nat) (s : Nat) : Nat := (SI Os C t s).toNat
theorem SV_SI {Os : Nat → Nat → Nat} {C t : Nat → Nat} (hO : ∀ i, i < 6 → okO (Os i)) {s : Nat} (hs : s < str t 18) : (SV Os C t s : Int) = SI Os C t s := Int.toNat_of_nonneg (SI_nn hO hs)
theorem SV_LT {Os : Nat → Nat → Nat} {C t : Nat → Nat} (hO : ∀ i, i < 6 → okO (Os i)) {s : Nat} (hs : s < str t 18) : SV Os C t s + LT Os C t s = pr C (dg t s) 12 := by
  have h1 := SV_SI (C := C) hO hs
  unfold SI at h1
  omega
theorem SV_le {Os : Nat → Nat → Nat} {C t : Nat → Nat} (hO : ∀ i, i < 6 → okO (Os i)) (hC : ∀ a, a < 12 → C a ≤ 100000) (hsm : sm t 12 ≤ 10) {s : Nat} (hs : s < str t 18) : SV Os C t s ≤ 1000000 := by
  have h1 := SV_LT (C := C) hO hs
  have h2 := pr_le (c := dg t s) hC 12 (Nat.le_refl _)
  have h3 := sm_le (e := dg t s) (f := t) 12 (fun d _ => dg_le t s d)
  omega
theorem dg_0 (t : Nat → Nat) (d : Nat) : dg t 0 d = 0 := by unfold dg; rw [Nat.zero_div, Nat.zero_mod]
theorem pr_zero (C : Nat → Nat) {c : Nat → Nat} : ∀ n, (∀ d, d < n → c d = 0) → pr C c n = 0 := by
  intro n
  induction n with
  | zero => intro _; rfl
  | succ n ih => intro h; rw [pr_s, ih (fun d hd => h d (by omega)), h n (by omega), Nat.zero_mul]
theorem SV_z {Os : Nat → Nat → Nat} {C t : Nat → Nat} (hO : ∀ i, i < 6 → okO (Os i)) {s : Nat} (hs : s < str t 18) (hz : ∀ b, b < 12 → dg t s b = 0) : SV Os C t s = 0 := by
  have h1 := SV_LT (C := C) hO hs
  rw [pr_zero C 12 hz] at h1
  omega
theorem kept_fits {Os : Nat → Nat → Nat} {C t v : Nat → Nat} (hO : ∀ i, i < 6 → okO (Os i)) {j : Nat} (hj : j < (kpA Os C t 6).length) : fitsU t v (kO (kpA Os C t 6) j) (kL (kpA Os C t 6) j) (apj (kA (kpA Os C t 6)) j) = leB (ve t (kU (kpA Os C t 6) j)) v 18 := by
  obtain ⟨h1, h2⟩ := kpA_mem 6 (kU_mem hj)
  obtain ⟨a1, a2, a3, a4, a5, a6⟩ := allU_el hO h1
  exact fits_ve a1 a4 a5
theorem kept_sav {Os : Nat → Nat → Nat} {C t : Nat → Nat} {j : Nat} (hj : j < (kpA Os C t 6).length) : (kS Os C (kpA Os C t 6) j : Int) = sav Os C (kU (kpA Os C t 6) j) ∧ 0 < kS Os C (kpA Os C t 6) j := by
  obtain ⟨h1, h2⟩ := kpA_mem 6 (kU_mem hj)
  unfold sav
  show ((uP C (kU (kpA Os C t 6) j) - uC Os C (kU (kpA Os C t 6) j) : Nat) : Int) = _ ∧ 0 < uP C (kU (kpA Os C t 6) j) - uC Os C (kU (kpA Os C t 6) j)
  constructor <;> omega
theorem SV_E1 {Os : Nat → Nat → Nat} {C t : Nat → Nat} (hO : ∀ i, i < 6 → okO (Os i)) {x a : Nat} (hx : x < str t 18) (ha : a < 12) (hd : 0 < dg t x a) (hb : ∀ b, b < a → dg t x b = 0) : SV Os C t x = bst t (dg t x) (kO (kpA Os C t 6)) (kL (kpA Os C t 6)) (kA (kpA Os C t 6)) (kS Os C (kpA Os C t 6)) (kT t (kpA Os C t 6)) (SV Os C t) x (chK (kpA Os C t 6) a) (SV Os C t (x - str t a)) := by
  obtain ⟨h1, h2⟩ := SI_main (C := C) hO (x + 1) x (by omega) hx a ha hd hb
  have e1 := SV_SI (C := C) hO hx
  have e2 := SV_SI (C := C) hO (show x - str t a < str t 18 by omega)
  have up : ∀ j, j < (kpA Os C t 6).length → leB (ve t (kU (kpA Os C t 6) j)) (dg t x) 18 = true → kS Os C (kpA Os C t 6) j + SV Os C t (x - kT t (kpA Os C t 6) j) ≤ SV Os C t x ∧ kT t (kpA Os C t 6) j ≤ x := by
    intro j hj hf
    have g1 := (kpA_mem 6 (kU_mem hj)).1
    have g2 := (leB_iff _ _ 18).mp hf
    have g3 := SI_ge (C := C) hO hx g1 g2
    have g4 := (dg_sub hx g2).1
    have g5 := (kept_sav hj).1
    have g6 := SV_SI (C := C) hO (show x - stp t (kU (kpA Os C t 6) j) < str t 18 by omega)
    refine ⟨?_, g4⟩
    have g7 : (kS Os C (kpA Os C t 6) j : Int) + SV Os C t (x - stp t (kU (kpA Os C t 6) j)) ≤ SV Os C t x := by omega
    exact Int.ofNat_le.mp (by rw [Int.natCast_add]; exact g7)
  refine Nat.le_antisymm ?_ ?_
  · rcases h2 with h2 | ⟨w, hw, hwf, hwa, hws, h2⟩
    · have h3 := bst_ge_b (t := t) (v := dg t x) (o := kO (kpA Os C t 6)) (l := kL (kpA Os C t 6)) (A := kA (kpA Os C t 6)) (sv := kS Os C (kpA Os C t 6)) (sp := kT t (kpA Os C t 6)) (S := SV Os C t) (x := x) (chK (kpA Os C t 6) a) (SV Os C t (x - str t a))
      omega
    · obtain ⟨u, hu, hsam⟩ := kpA_rep (C := C) hw (by unfold sav at hws; omega)
      obtain ⟨j, hj, ej⟩ := List.getElem_of_mem hu
      have ej2 : kU (kpA Os C t 6) j = u := by
        show (kpA Os C t 6).getD j (0, []) = u
        rw [List.getD_eq_getElem?_getD, List.getElem?_eq_getElem hj]; exact ej
      have hfj : leB (ve t (kU (kpA Os C t 6) j)) (dg t x) 18 = true := by rw [ej2, sam_ve hsam]; exact (leB_iff _ _ 18).mpr hwf
      have hga : gA (cn (kU (kpA Os C t 6) j)) 0 = a := by
        rw [ej2]
        have hve : ∀ b, b < 12 → ve t w b = w.2.count b := fun b hb => by unfold ve; rw [if_pos hb]
        refine gA_0 ha (by show 0 < u.2.count a; rw [hsam.2 a ha]; exact hwa) (fun b hba => ?_)
        show u.2.count b = 0
        have := hwf b (by omega)
        rw [hve b (by omega), hb b hba] at this
        rw [hsam.2 b (by omega)]; omega
      have h3 := bst_ge (t := t) (v := dg t x) (o := kO (kpA Os C t 6)) (l := kL (kpA Os C t 6)) (A := kA (kpA Os C t 6)) (sv := kS Os C (kpA Os C t 6)) (sp := kT t (kpA Os C t 6)) (S := SV Os C t) (x := x) (chK (kpA Os C t 6) a) (SV Os C t (x - str t a)) j (chK_mem hj hga) (by rw [kept_fits hO hj]; exact hfj)
      refine Nat.le_trans ?_ h3
      have g5 := (kept_sav hj).1
      have g7 : sav Os C (kU (kpA Os C t 6) j) = sav Os C w := by rw [ej2]; unfold sav; rw [sam_uP hsam, sam_uC hsam]
      have g8 : kT t (kpA Os C t 6) j = stp t w := by show stp t (kU (kpA Os C t 6) j) = _; rw [ej2, sam_stp hsam]
      have g6 := SV_SI (C := C) hO (show x - stp t w < str t 18 by omega)
      rw [g8]
      omega
  · rcases bst_att (t := t) (v := dg t x) (o := kO (kpA Os C t 6)) (l := kL (kpA Os C t 6)) (A := kA (kpA Os C t 6)) (sv := kS Os C (kpA Os C t 6)) (sp := kT t (kpA Os C t 6)) (S := SV Os C t) (x := x) (chK (kpA Os C t 6) a) (SV Os C t (x - str t a)) with h3 | ⟨j, hj, hf, h3⟩
    · rw [h3]; omega
    · rw [h3]
      have hj2 := (chK_lt hj).1
      rw [kept_fits hO hj2] at hf
      exact (up j hj2 hf).1
def tB (Os : Nat → Nat → Nat) (f : Nat → Int32) (z : Nat) : Nat → Nat := fun d => if z = 0 then 0 else tp Os f z d
def solved (Os : Nat → Nat → Nat) (C t : Nat → Nat) (z : Nat) (κ υ : St) : Prop := (∀ d, d < 18 → κ 0 d = nI (t d)) ∧ (∀ s, s < str t 18 → κ 3 s = nI (SV Os C t s)) ∧ κ 5 0 = nI (str t 18 - 1) ∧ repC Os C t υ (kpA Os C t 6) ∧ (0 < z → ∀ d, d < 18 → κ 1 d = nI (str t d))
theorem tp_sm (Os : Nat → Nat → Nat) (f : Nat → Int32) (z : Nat) : sm (tp Os f z) 12 ≤ z := by
  refine Nat.le_trans (sm_le (f := fun a => cnt f (nI a) z) 12 (fun d hd => ?_)) (sm_cnt f z)
  unfold tp
  rw [if_pos hd]
  split
  · exact Nat.le_refl _
  · exact Nat.zero_le _
theorem tp_hi {Os : Nat → Nat → Nat} {f : Nat → Int32} {z o : Nat} : tp Os f z (12 + o) = if Os o 4 = 1 then Os o 3 else 0 := by
  unfold tp
  rw [if_neg (by omega), Nat.add_sub_cancel_left]
theorem tp_lt {Os : Nat → Nat → Nat} {f : Nat → Int32} {z : Nat} (hO : ∀ i, i < 6 → okO (Os i)) (hz : z ≤ 10) : ∀ d, d < 18 → tp Os f z d < 100 := by
  intro d hd
  by_cases h : d < 12
  · unfold tp
    rw [if_pos h]
    have := cnt_le f (nI d) z
    split <;> omega
  · obtain ⟨o, rfl⟩ : ∃ o, d = 12 + o := ⟨d - 12, by omega⟩
    rw [tp_hi]
    have := (hO o (by omega)).2.2.2.2.1
    split <;> omega
theorem str_zero {t : Nat → Nat} (h : ∀ d, t d = 0) : ∀ n, str t n = 1 := by
  intro n
  induction n with
  | zero => rfl
  | succ n ih => rw [str_s, ih, h n]
theorem str_top {t : Nat → Nat} (h : ∀ d, d < 6 → t (12 + d) ≤ 5) : ∀ n, n ≤ 6 → str t (12 + n) ≤ str t 12 * 6 ^ n := by
  intro n
  induction n with
  | zero => intro _; rw [Nat.pow_zero, Nat.mul_one]; exact Nat.le_refl _
  | succ n ih =>
    intro hn
    rw [← Nat.add_assoc, str_s, Nat.pow_succ, ← Nat.mul_assoc]
    exact Nat.mul_le_mul (ih (by omega)) (by have := h n (by omega); omega)
theorem str_31 {Os : Nat → Nat → Nat} {f : Nat → Int32} {z : Nat} (hO : ∀ i, i < 6 → okO (Os i)) (hz : z ≤ 10) : str (tp Os f z) 18 < 2 ^ 30 := by
  have h1 := str_1024 (t := tp Os f z) (by have := tp_sm Os f z; omega)
  have h2 := str_top (t := tp Os f z) (fun d hd => by
    rw [tp_hi]
    have := (hO d hd).2.2.2.2.1
    split <;> omega) 6 (Nat.le_refl _)
  have h3 : str (tp Os f z) 12 * 6 ^ 6 ≤ 1024 * 6 ^ 6 := Nat.mul_le_mul_right _ h1
  have h4 : (1024 * 6 ^ 6 : Nat) < 2 ^ 30 := by decide
  have h5 : str (tp Os f z) (12 + 6) = str (tp Os f z) 18 := rfl
  omega
theorem pf_solve (N : Nat) (hN : 3001 ≤ N) {κ υ τ β : St} {ω : Nat → St} {Os : Nat → Nat → Nat} {C : Nat → Nat} (hW : repW ω Os) (hτ : ∀ a, a < 12 → τ 0 a = nI (C a)) (hC : ∀ a, a < 12 → C a ≤ 100000) {z : Nat} (hz : z ≤ 10) (hb : β 1 0 = nI z) (hroom : z = 0 ∨ str (tp Os (β 0) z) 18 ≤ 3000) {st : Nat} (hS : repS υ st) (hst : st + 6 < 2 ^ 30) (post : St × St → Prop)
    (hp : ∀ κ2 υ2 st2, st2 ≤ st + 6 → repS υ2 st2 → solved Os C (tB Os (β 0) z) z κ2 υ2 → post (κ2, υ2)) : wp_Planner_solve N κ υ τ ω β post := by
  have hO : ∀ i, i < 6 → okO (Os i) := fun i hi => (hW i hi).2.2
  have htl := tp_lt (f := β 0) hO hz
  have h31 := str_31 (f := β 0) hO hz
  unfold wp_Planner_solve
  refine pf_roomFor N (by omega) κ υ τ hW β z hz hb _ (fun κ1 k0 k1 k2 => ?_)
  rw [hb]
  refine pk_eq z 0 (fun e0 => ?_) (fun e0 => ?_)
  · subst e0
    have et : tB Os (β 0) 0 = fun _ => 0 := by funext d; exact if_pos rfl
    have es : str (fun _ => 0) 18 = 1 := str_zero (fun _ => rfl) 18
    rw [et] at hp
    unfold wp_Planner_solve_21
    refine pf_fill18 N (by omega) _ _ _ (fun u21 hu => fun κ23 e23 => ?_)
    have c0 : ∀ d, d < 18 → κ23 0 d = nI 0 := fun d hd => by rw [e23, up_same, hu d hd]; rfl
    unfold wp_Planner_solve_31
    refine pf_collect N (by omega) (ι := fun _ => κ23 0) (ϕ := fun _ => κ23 1) (t := fun _ => 0) hW hτ (fun d hd => ⟨c0 d hd, by decide⟩) (Or.inr (fun _ _ => rfl)) hS hst _ (fun υ2 st2 hc hs2 hle => ?_)
    refine pf_fill18 N (by omega) _ _ _ (fun u7 hu7 => fun κ9 e9 => ⟨vp_in_nI (n := 0) (by decide) (by decide), fun κ11 e11 => ?_⟩)
    obtain ⟨n, rfl⟩ : ∃ n, N = n + 1 := ⟨N - 1, by omega⟩
    rw [wp_Planner_solve_65]
    refine pk_le 1 1 (fun _ => ?_) (fun h => by omega)
    unfold wp_Planner_solve_102
    intro κ20 e20
    refine hp κ20 υ2 st2 hle hs2 ⟨fun d hd => ?_, fun s hs => ?_, ?_, hc, fun h => by omega⟩
    · rw [e20, s2_comp _ _ _ _ (by decide), e11, s2_comp _ _ _ _ (by decide), e9, up_ne _ _ (by decide)]; exact c0 d hd
    · have : s = 0 := by omega
      subst this
      rw [SV_z hO hs (fun b _ => dg_0 _ b), e20, s2_comp _ _ _ _ (by decide), e11]
      exact s2_same ..
    · rw [es, e20, s2_same]; rfl
  · have hR : str (tp Os (β 0) z) 18 ≤ 3000 := hroom.resolve_left e0
    have et : tB Os (β 0) z = tp Os (β 0) z := by funext d; exact if_neg e0
    rw [et] at hp
    refine pk_le (str (tp Os (β 0) z) 18) 3000 (fun _ => ?_) (fun h => by omega)
    have hA : okA Os C (tp Os (β 0) z) := ⟨hC, by have := tp_sm Os (β 0) z; omega, hR, fun o ho h4 => by rw [tp_hi, if_pos h4]⟩
    unfold wp_Planner_solve_31
    refine pf_collect N (by omega) (ι := fun _ => κ1 0) (ϕ := fun _ => κ1 1) (t := tp Os (β 0) z) hW hτ (fun d hd => ⟨k0 d hd, htl d hd⟩) (Or.inl ⟨hA, k1⟩) hS hst _ (fun υ2 st2 hc hs2 hle => ?_)
    refine pf_fill18 N (by omega) _ _ _ (fun u7 hu7 => fun κ9 e9 => ⟨vp_in_nI (n := 0) (by decide) (by decide), fun κ11 e11 => ?_⟩)
    have hlen : ∀ a, (chK (kpA Os C (tp Os (β 0) z) 6) a).length ≤ 1260 := fun a => by
      refine Nat.le_trans (List.length_filter_le _ _) ?_
      rw [List.length_range]; exact hc.1.2.1
    have hsp := str_pos (tp Os (β 0) z) 18
    refine pf_solve65 N (by omega) τ ω β (S := SV Os C (tp Os (β 0) z)) htl hc.1 rfl hR (chK (kpA Os C (tp Os (β 0) z) 6)) (fun a ha => ⟨(hc.2 a ha).1, hlen a⟩) (fun x hx a ha j hj hf => ?_) (fun s hs => SV_le hO hC hA.2.1 hs) (fun x _ hx a ha hd hb => SV_E1 hO hx ha hd hb) (fun x _ hx hd => SV_z hO hx hd) _ (fun κ2 q0 q1 q3 q5 => hp κ2 υ2 st2 hle hs2 ⟨q0, q3, q5, hc, fun _ => q1⟩) N 1 κ11 (by omega) (by omega) (by omega) (fun d hd => ?_) (fun d hd => ?_) (fun d hd => ?_) (fun s hs => ?_)
    · have hj2 := (chK_lt hj).1
      rw [kept_fits hO hj2] at hf
      exact ⟨(dg_sub hx ((leB_iff _ _ 18).mp hf)).1, stp_pos hO (kpA_mem 6 (kU_mem hj2)).1⟩
    · rw [e11, s2_comp _ _ _ _ (by decide), e9, up_ne _ _ (by decide)]; exact k0 d hd
    · rw [e11, s2_comp _ _ _ _ (by decide), e9, up_ne _ _ (by decide)]; exact k1 d hd
    · rw [e11, s2_comp _ _ _ _ (by decide), e9, up_same, hu7 d hd, Nat.sub_self, dg_0]; rfl
    · have : s = 0 := by omega
      subst this
      rw [SV_z hO hsp (fun b _ => dg_0 _ b), e11]
      exact s2_same ..
