/-! run; the basket: add, remove; scan, unscan -/
def upR (O : Nat → Nat) (v : Nat) : Nat → Nat := fun j => if j = 4 then v else O j
theorem ok_upR {O : Nat → Nat} (h : okO O) {v : Nat} (hv : v ≤ 1) : okO (upR O v) := by
  obtain ⟨p1, p2, p3, p4, p5, p6, p7⟩ := h
  refine ⟨p1, p2, p3, p4, p5, hv, fun q hq => ?_⟩
  unfold upR
  rw [if_neg (by omega)]; exact p7 q hq
theorem clT_run {A : AS} {θ β τ : St} {ω : Nat → St} {π : St} (hA : clS A θ β τ ω π) (N : Nat) (x1 : Int32) {v : Nat} (hv : v ≤ 1) (post : Int32 → (Nat → St) → Prop)
    (h1 : ¬ rg 0 6 x1 → post 1 ω) (h2 : rg 0 6 x1 → Az A ≠ 0 → post 2 ω)
    (h0 : ∀ i, i < 6 → x1 = nI i → Az A = 0 → ∀ ω2, clS (aOff A i (upR (AOs A i) v)) θ β τ ω2 π → okO (upR (AOs A i) v) → post 0 ω2) : wp_Law_run N θ β τ ω x1 (nI v) post := by
  obtain ⟨a1, a2, a3, a4, a5⟩ := id hA
  unfold wp_Law_run wp_Till_run
  refine pf_reqOff N _ _ (fun i hi e1 => ?_) (fun hn => Or.inl ⟨rfl, h1 hn⟩)
  subst e1
  unfold wp_Till_requireEmptyBasket
  rw [a2.2.1]
  have hz10 := a2.1
  refine pk_eq (Az A) 0 (fun hz => ?_) (fun hz => Or.inr ⟨rfl, h2 (rg_of (by omega) hi) hz⟩)
  rw [nI_clamp (by omega)]
  obtain ⟨o1, o2, o3⟩ := a4 i hi
  have hO2 := ok_upR o3 hv
  refine ⟨vp_in_nI hi (by decide), nar_ok (by rcases (show v = 0 ∨ v = 1 by omega) with rfl | rfl; exact Or.inl rfl; exact Or.inr rfl), fun ω7 e7 => ?_⟩
  refine h0 i hi rfl hz ω7 (cl_aOff hA hz ⟨fun j hj => ?_, fun q hq => ?_, hO2⟩ (fun j hj => by rw [e7, up_ne _ _ hj])) hO2
  · rw [e7, up_same]
    unfold upR
    by_cases e : j = 4
    · subst e; rw [s2_same, if_pos rfl]
    · rw [s2_comp _ _ _ _ e, if_neg e]; exact o1 j hj
  · rw [e7, up_same, s2_comp _ _ _ _ (by decide), o2 q hq]
    unfold upR
    rw [if_neg (by omega)]
theorem nar_v {v : Nat} (hv : v ≤ 1) : vp_nar .boolean (nI v) = nI v := by
  rcases (show v = 0 ∨ v = 1 by omega) with rfl | rfl
  · exact nar_0
  · exact nar_1
theorem moT_run {A : AS} {μ : St} (hok : okS A) (hA : moS A μ) (N : Nat) (x1 : Int32) {v : Nat} (hv : v ≤ 1) (post : St → Prop)
    (h1 : ¬ rg 0 6 x1 → ∀ u, u 39 0 = 1 → moS A u → post u) (h2 : rg 0 6 x1 → Az A ≠ 0 → ∀ u, u 39 0 = 2 → moS A u → post u)
    (h0 : ∀ i, i < 6 → x1 = nI i → Az A = 0 → ∀ u, u 39 0 = 0 → moS (aOff A i (upR (AOs A i) v)) u → post u) : wp_Model_run N μ x1 (nI v) post := by
  have hz10 := hok.hz
  have m4 := hA.2.2.2.1
  unfold wp_Model_run wp_Model_run_26
  rw [m4]
  refine pf_Mw N (lo := 0) (n := 6) (by decide) (by decide) (by decide) _ (fun i _ hi e1 => ⟨fun _ => pk_le (Az A) 0 (fun hz => fun μ5 e5 => ?_) (fun hz => fun μ5 e5 => ?_), fun h => absurd h (by decide)⟩) (fun hn => ⟨fun h => absurd rfl h, fun _ => fun μ5 e5 => ?_⟩)
  · subst e1
    have e39 : μ5 39 0 = 0 := by rw [e5, s2_same]
    rw [e39, i72, nI_clamp (by omega), nar_v hv]
    refine ⟨fun h => absurd rfl h, fun _ => ⟨vp_in_nI (by omega) (by decide), fun μ8 e8 => ?_⟩⟩
    obtain ⟨k1, k2, k3, k4, k5, k6, k7⟩ := hA.2.1 i hi
    have fr : ∀ d, d ≠ 6 → d ≠ 39 → μ8 d = μ d := fun d d6 d39 => by rw [e8, s2_comp _ _ _ _ d6, e5, s2_comp _ _ _ _ d39]
    refine h0 i hi rfl (by omega) μ8 (by rw [e8, s2_comp _ _ _ _ (by decide)]; exact e39) (mo_aOff hok hA ⟨by rw [fr 2 (by decide) (by decide)]; exact k1, by rw [fr 3 (by decide) (by decide)]; exact k2, by rw [fr 4 (by decide) (by decide)]; exact k3, by rw [fr 5 (by decide) (by decide)]; exact k4, by rw [e8, s2_same]; rfl, fun s hs => ?_, ok_upR k7 hv⟩ (fun d hd hnd => fr d (by omega) (by omega)) (fun d d1 d2 q hq => ?_) (fun q hq => by rw [fr 7 (by decide) (by decide)]))
    · rw [fr 7 (by decide) (by decide), k6 s hs]
      unfold upR
      rw [if_neg (by omega)]
    · rw [e8, s2_ne _ _ _ _ (Or.inr hq), e5, s2_comp _ _ _ _ (by omega)]
  · have e39 : μ5 39 0 = 2 := by rw [e5, s2_same]
    rw [e39]
    subst e1
    exact ⟨fun _ => h2 (rg_of (by omega) hi) (by omega) μ5 e39 (moS_same (fun d hd => by rw [e5, s2_comp _ _ _ _ (by omega)]) hA), fun h => absurd h (by decide)⟩
  · have e39 : μ5 39 0 = 1 := by rw [e5, s2_same]
    rw [e39]
    exact ⟨fun _ => h1 hn μ5 e39 (moS_same (fun d hd => by rw [e5, s2_comp _ _ _ _ (by omega)]) hA), fun h => absurd h (by decide)⟩
/-! the basket -/
def rmv (b : Nat → Nat) (i : Nat) : Nat → Nat := fun j => if j < i then b j else b (j + 1)
theorem repB_congr {β : St} {b c : Nat → Nat} {z : Nat} (h : ∀ i, i < z → b i = c i) (hB : repB β b z) : repB β c z := by
  obtain ⟨h1, h2, h3⟩ := hB
  exact ⟨h1, h2, fun i hi => by rw [← h i hi]; exact h3 i hi⟩
theorem pf_add (N : Nat) {β : St} {b : Nat → Nat} {z a : Nat} (hB : repB β b z) (hz : z < 10) (ha : a < 12) (post : St → Prop) (hp : ∀ u, repB u (fup b z a) (z + 1) → post u) : wp_Basket_add N β (nI a) post := by
  obtain ⟨h1, h2, h3⟩ := hB
  unfold wp_Basket_add
  rw [h2]
  refine pk_le 10 z (fun h => by omega) (fun _ => ⟨vp_in_nI hz (by decide), fun β3 e3 => fun β4 e4 => ?_⟩)
  rw [nI_clamp (by omega)] at e3
  refine hp β4 ⟨by omega, ?_, fun i hi => ?_⟩
  · rw [e4, s2_same, e3, s2_comp _ _ _ _ (by decide), h2, nI_1]
  · rw [e4, s2_comp _ _ _ _ (by decide), e3]
    by_cases e : i = z
    · subst e; rw [s2_same, fup_same]; exact ⟨rfl, ha⟩
    · rw [s2_ne _ _ _ _ (Or.inr e), fup_ne _ _ e]; exact h3 i (by omega)
theorem pf_remove (N : Nat) (hN : 12 ≤ N) {β : St} {b : Nat → Nat} {z i : Nat} (hB : repB β b z) (hi : i < z) (post : St → Prop) (hp : ∀ u, repB u (rmv b i) (z - 1) → post u) : wp_Basket_remove N β (nI i) post := by
  obtain ⟨h1, h2, h3⟩ := hB
  have loop : ∀ (n k : Nat) (w : St), i ≤ k → k ≤ z - 1 → z - 1 - k < n → w 1 0 = nI z → (∀ j, j < k → w 0 j = nI (rmv b i j)) → (∀ j, k ≤ j → j < z → w 0 j = nI (b j)) → wp_Basket_remove_15 N post n (nI k) w := by
    intro n
    induction n with
    | zero => intro k w _ _ h; omega
    | succ n ih =>
      intro k w hik hk hn w1 wl wh
      rw [wp_Basket_remove_15, w1, show (1 : Int32) = nI 1 from rfl, pk_sub (by omega)]
      refine pk_le (z - 1) k (fun hq => fun β4 e4 => ?_) (fun hq => ?_)
      · refine hp β4 ⟨by omega, by rw [e4, s2_same], fun j hj => ?_⟩
        rw [e4, s2_comp _ _ _ _ (by decide)]
        refine ⟨wl j (by omega), ?_⟩
        unfold rmv
        split
        · exact (h3 j (by omega)).2
        · exact (h3 (j + 1) (by omega)).2
      · rw [nI_add, nI_clamp (by omega), nI_clamp (by omega), wh (k + 1) (by omega) (by omega)]
        refine ⟨vp_in_nI (by omega) (by decide), vp_in_nI (by omega) (by decide), fun β7 e7 => ?_⟩
        refine ih (k + 1) β7 (by omega) (by omega) (by omega) (by rw [e7, s2_comp _ _ _ _ (by decide)]; exact w1) (fun j hj => ?_) (fun j hj1 hj2 => ?_)
        · by_cases e : j = k
          · subst e
            rw [e7, s2_same]
            unfold rmv
            rw [if_neg (by omega)]
          · rw [e7, s2_ne _ _ _ _ (Or.inr e)]; exact wl j (by omega)
        · rw [e7, s2_ne _ _ _ _ (Or.inr (by omega))]; exact wh j (by omega) hj2
  unfold wp_Basket_remove
  rw [h2]
  refine ⟨fun h => absurd h (nI_pos (by omega)), fun _ => pk_lt i z (fun _ => ?_) (fun h => by omega)⟩
  refine loop N i β (by omega) (by omega) (by omega) h2 (fun j hj => ?_) (fun j _ hj => (h3 j hj).1)
  unfold rmv
  rw [if_pos hj]; exact (h3 j (by omega)).1
/-! rooms of smaller baskets -/
theorem str_mono {t s : Nat → Nat} : ∀ n, (∀ d, d < n → t d ≤ s d) → str t n ≤ str s n := by
  intro n
  induction n with
  | zero => intro _; exact Nat.le_refl _
  | succ n ih =>
    intro h
    rw [str_s, str_s]
    exact Nat.mul_le_mul (ih (fun d hd => h d (by omega))) (by have := h n (by omega); omega)
theorem tN_mono {Os : Nat → Nat → Nat} {b c : Nat → Nat} {z y : Nat} (h : ∀ a, a < 12 → cnt (nB c) (nI a) y ≤ cnt (nB b) (nI a) z) (hyz : 0 < y → 0 < z) : ∀ d, d < 18 → tN Os c y d ≤ tN Os b z d := by
  intro d hd
  by_cases h12 : d < 12
  · rw [tN_lo h12, tN_lo h12]
    split
    · exact h d h12
    · exact Nat.le_refl _
  · obtain ⟨o, rfl⟩ : ∃ o, d = 12 + o := ⟨d - 12, by omega⟩
    rw [tN_hi, tN_hi]
    by_cases hc : 0 < y ∧ Os o 4 = 1
    · rw [if_pos hc, if_pos ⟨hyz hc.1, hc.2⟩]; exact Nat.le_refl _
    · rw [if_neg hc]; exact Nat.zero_le _
theorem cnt_rmv (b : Nat → Nat) (a : Int32) {i : Nat} : ∀ m, i ≤ m → cnt (nB (rmv b i)) a m + (if nI (b i) = a then 1 else 0) = cnt (nB b) a (m + 1) := by
  intro m
  induction m with
  | zero =>
    intro h
    have : i = 0 := by omega
    subst this; rfl
  | succ m ih =>
    intro h
    by_cases e : i = m + 1
    · subst e
      have : cnt (nB (rmv b (m + 1))) a (m + 1) = cnt (nB b) a (m + 1) := cnt_congr (m + 1) (fun j hj => by
        show nI (rmv b (m + 1) j) = nI (b j)
        unfold rmv
        rw [if_pos hj])
      rw [this]; rfl
    · have h1 := ih (by omega)
      have h2 : cnt (nB (rmv b i)) a (m + 1) = cnt (nB (rmv b i)) a m + (if nI (b (m + 1)) = a then 1 else 0) := by
        show cnt (nB (rmv b i)) a m + (if nI (rmv b i m) = a then 1 else 0) = _
        have : rmv b i m = b (m + 1) := if_neg (by omega)
        rw [this]
      have h3 : cnt (nB b) a (m + 1 + 1) = cnt (nB b) a (m + 1) + (if nI (b (m + 1)) = a then 1 else 0) := rfl
      omega
theorem room_rmv {Os : Nat → Nat → Nat} {b : Nat → Nat} {z i : Nat} (hi : i < z) (h : str (tN Os b z) 18 ≤ 3000) : str (tN Os (rmv b i) (z - 1)) 18 ≤ 3000 := by
  refine Nat.le_trans (str_mono 18 (tN_mono (fun a _ => ?_) (fun _ => by omega))) h
  have := cnt_rmv b (nI a) (i := i) (z - 1) (by omega)
  rw [show z - 1 + 1 = z by omega] at this
  omega
theorem tp_N {Os : Nat → Nat → Nat} {β : St} {b : Nat → Nat} {z : Nat} (hB : repB β b z) : tp Os (β 0) z = tp Os (nB b) z := by
  funext d
  unfold tp
  rw [cnt_congr z (fun i hi => (hB.2.2 i hi).1)]
theorem tN_tp {Os : Nat → Nat → Nat} {b : Nat → Nat} {z : Nat} (hz : 0 < z) : tN Os b z = tp Os (nB b) z := by
  funext d
  exact if_neg (by omega)
theorem pf_roomB (N : Nat) (hN : 19 ≤ N) (κ0 υ τ : St) {ω : Nat → St} {Os : Nat → Nat → Nat} (h : repW ω Os) {β : St} {b : Nat → Nat} {z : Nat} (hB : repB β b z) (post : Int32 → St → Prop) (hp : ∀ κ, post (nI (str (tp Os (nB b) z) 18)) κ) : wp_Planner_roomFor N κ0 υ τ ω β post := by
  refine pf_roomFor N hN κ0 υ τ h β z hB.1 hB.2.1 post (fun κ _ _ _ => ?_)
  rw [tp_N hB]; exact hp κ
/-! the reference: takeBasket, fits -/
theorem pf_takeB (N : Nat) (hN : 11 ≤ N) {A : AS} {μ : St} (hz : Az A ≤ 10) (hb : ∀ i, i < Az A → Ab A i < 12) (hA : moS A μ) (post : St → Prop) (hp : ∀ u, (∀ d, d < 20 ∨ 23 < d → u d = μ d) → repX u 12 (AOs A) (AC A) (Ab A) (Az A) → post u) : wp_Model_takeBasket N μ post := by
  obtain ⟨m1, m2, m3, m4, m5, m6, m7, m8⟩ := id hA
  have loop : ∀ (n i : Nat) (w : St), i ≤ Az A → Az A - i < n → (∀ d, d < 20 ∨ 23 < d → w d = μ d) → w 23 0 = nI 12 → w 22 0 = nI (Az A) → (∀ j, j < i → w 20 j = nI (Ab A j) ∧ w 21 j = nI (AC A (Ab A j))) → wp_Model_takeBasket_16 N post n (nI i) w := by
    intro n
    induction n with
    | zero => intro i w _ h; omega
    | succ n ih =>
      intro i w hi hn wf w23 w22 wj
      rw [wp_Model_takeBasket_16, wf 9 (by omega), m4]
      refine pk_le (Az A) i (fun hq => ?_) (fun hq => ?_)
      · refine hp w wf ⟨⟨by omega, w23, fun j hj => ?_⟩, w22, hz, fun j hj => ⟨(wj j (by omega)).1, hb j hj, (wj j (by omega)).2⟩⟩
        have := repK_same (w := w) (fun d d1 d2 => wf d (by omega)) (m2 j hj)
        exact this
      · have hb := hb i hq
        have hin : vp_in (nI i) 10 := vp_in_nI (by omega) (by decide)
        rw [nI_clamp (by omega), wf 8 (by omega), m3 i hq]
        refine ⟨hin, hin, fun μ6 e6 => ?_⟩
        have e68 : μ6 8 i = nI (Ab A i) := by rw [e6, s2_comp _ _ _ _ (by decide), wf 8 (by omega)]; exact m3 i hq
        have e60 : μ6 0 (Ab A i) = nI (AC A (Ab A i)) := by rw [e6, s2_comp _ _ _ _ (by decide), wf 0 (by omega)]; exact (m1 _ hb).1
        rw [e68, nI_clamp (by omega), e60, nI_1]
        refine ⟨hin, vp_in_nI hb (by decide), hin, fun μ10 e10 => ?_⟩
        refine ih (i + 1) μ10 (by omega) (by omega) (fun d hd => by rw [e10, s2_comp _ _ _ _ (by omega), e6, s2_comp _ _ _ _ (by omega)]; exact wf d hd) (by rw [e10, s2_comp _ _ _ _ (by decide), e6, s2_comp _ _ _ _ (by decide)]; exact w23) (by rw [e10, s2_comp _ _ _ _ (by decide), e6, s2_comp _ _ _ _ (by decide)]; exact w22) (fun j hj => ?_)
        by_cases e : j = i
        · subst e
          exact ⟨by rw [e10, s2_comp _ _ _ _ (by decide), e6, s2_same], by rw [e10, s2_same]⟩
        · obtain ⟨q1, q2⟩ := wj j (by omega)
          exact ⟨by rw [e10, s2_comp _ _ _ _ (by decide), e6, s2_ne _ _ _ _ (Or.inr e)]; exact q1, by rw [e10, s2_ne _ _ _ _ (Or.inr e), e6, s2_comp _ _ _ _ (by decide)]; exact q2⟩
  unfold wp_Model_takeBasket
  intro μ1 e1 μ2 e2
  refine loop N 0 μ2 (by omega) (by omega) (fun d hd => by rw [e2, s2_comp _ _ _ _ (by omega), e1, s2_comp _ _ _ _ (by omega)]) (by rw [e2, s2_comp _ _ _ _ (by decide), e1, s2_same]; rfl) ?_ (fun j hj => by omega)
  rw [e2, s2_same, e1, s2_comp _ _ _ _ (by decide)]; exact m4
theorem pf_takeBasket (N : Nat) (hN : 11 ≤ N) {A : AS} {μ : St} (hok : okS A) (hA : moS A μ) (post : St → Prop) (hp : ∀ u, (∀ d, d < 20 ∨ 23 < d → u d = μ d) → repX u 12 (AOs A) (AC A) (Ab A) (Az A) → post u) : wp_Model_takeBasket N μ post := pf_takeB N hN hok.hz hok.hb hA post hp
theorem pf_Mfits (N : Nat) (hN : 13 ≤ N) {μ : St} {bk : Nat} {Os : Nat → Nat → Nat} {C b : Nat → Nat} {z : Nat} (hX : repX μ bk Os C b z) (post : Int32 → Unit → Prop) (h1 : str (tp Os (nB b) z) 18 ≤ 3000 → post 1 ()) (h0 : 3000 < str (tp Os (nB b) z) 18 → post 0 ()) : wp_Model_fits N μ post := by
  have hz := hX.2.2.1
  have hbk := hX.1.1
  have hO : ∀ i, i < 6 → okO (Os i) := fun i hi => (hX.1.2.2 i hi).2.2.2.2.2.2
  have h31 := str_31 (f := nB b) hO hz
  have hmono : ∀ d e, d ≤ e → str (tp Os (nB b) z) d ≤ str (tp Os (nB b) z) e := by
    intro d e h
    induction e with
    | zero => rw [show d = 0 by omega]; exact Nat.le_refl _
    | succ e ih =>
      by_cases hd : d = e + 1
      · rw [hd]; exact Nat.le_refl _
      · have h2 := ih (by omega)
        rw [str_s]
        have h3 : str (tp Os (nB b) z) e * 1 ≤ str (tp Os (nB b) z) e * (tp Os (nB b) z e + 1) := Nat.mul_le_mul_left _ (by omega)
        omega
  have loopO : ∀ (n o : Nat), o ≤ 6 → 6 - o < n → wp_Model_fits_69 N μ post n (lN (str (tp Os (nB b) z) (12 + o))) (nI o) := by
    intro n
    induction n with
    | zero => intro o _ h; omega
    | succ n ih =>
      intro o ho hn
      rw [wp_Model_fits_69]
      refine pk_le 6 o (fun hq => ?_) (fun hq => ?_)
      · have : o = 6 := by omega
        subst this
        have e : lg_cmp (lN (str (tp Os (nB b) z) (12 + 6))) 3000 = lg_cmp (lN (str (tp Os (nB b) z) 18)) (lN 3000) := rfl
        rw [e, lg_cmp_gt, pk_lLT (by decide) (by omega)]
        exact ⟨h0, fun h => h1 (by omega)⟩
      · have ho2 : o < 6 := by omega
        obtain ⟨k1, k2, k3, k4, k5, k6, k7⟩ := hX.1.2.2 o ho2
        have hb4 := k7.2.2.2.2.2.1
        have hb3 := k7.2.2.2.2.1
        have nx := ih (o + 1) (by omega) (by omega)
        have es : str (tp Os (nB b) z) (12 + (o + 1)) = str (tp Os (nB b) z) (12 + o) * (tp Os (nB b) z (12 + o) + 1) := rfl
        rw [es, tp_hi] at nx
        have hin : vp_in (nI (6 * bk + o)) 78 := vp_in_nI (by omega) (by decide)
        rw [hX.1.2.1, six, nI_clamp (by omega), k5, k4]
        unfold wp_Model_fits_112
        rw [nI_1]
        refine ⟨hin, pk_eq (Os o 4) 0 (fun h => ?_) (fun h => ⟨hin, ?_⟩)⟩
        · rw [if_neg (by omega), Nat.zero_add, Nat.mul_one] at nx
          exact nx
        · rw [if_pos (by omega)] at nx
          rw [nI_1, nI_l (by omega), lN_mul]
          exact nx
  have loopA : ∀ (n a : Nat), a ≤ 12 → 12 - a < n → wp_Model_fits_4 N μ post n (lN (str (tp Os (nB b) z) a)) (nI a) := by
    intro n
    induction n with
    | zero => intro a _ h; omega
    | succ n ih =>
      intro a ha hn
      rw [wp_Model_fits_4]
      refine pk_le 12 a (fun hq => ?_) (fun hq => ?_)
      · have : a = 12 := by omega
        subst this
        exact loopO N 0 (by omega) (by omega)
      · have ha2 : a < 12 := by omega
        have nx := ih (a + 1) (by omega) (by omega)
        have es : str (tp Os (nB b) z) (a + 1) = str (tp Os (nB b) z) a * (tp Os (nB b) z a + 1) := rfl
        have et : tp Os (nB b) z a = if lkT Os a 6 then cnt (nB b) (nI a) z else 0 := by unfold tp; rw [if_pos ha2]
        rw [es, et] at nx
        have hcz := cnt_le (nB b) (nI a) z
        have inner : ∀ (m i : Nat), i ≤ z → z - i < m → wp_Model_fits_16 N μ post (wp_Model_fits_4 N μ post n) m (lN (str (tp Os (nB b) z) a)) (nI a) (nI (cnt (nB b) (nI a) i)) (nI i) := by
          intro m
          induction m with
          | zero => intro i _ h; omega
          | succ m ihm =>
            intro i hi hm
            rw [wp_Model_fits_16, hX.2.1]
            refine pk_le z i (fun hq2 => ?_) (fun hq2 => ?_)
            · have : i = z := by omega
              subst this
              refine pf_MlooksAt N (by omega) hX.1 ha2 _ ?_
              unfold wp_Model_fits_61
              rw [nI_1]
              by_cases hk : lkT Os a 6 = true
              · rw [if_pos hk] at nx ⊢
                refine ⟨fun h => absurd h (by decide), fun _ => ?_⟩
                rw [nI_1, nI_l (by omega), lN_mul]
                exact nx
              · rw [if_neg hk] at nx ⊢
                refine ⟨fun _ => ?_, fun h => absurd rfl h⟩
                rw [Nat.zero_add, Nat.mul_one] at nx
                exact nx
            · obtain ⟨x1, x2, x3⟩ := hX.2.2.2 i hq2
              rw [nI_clamp (by omega), x1]
              have ec : cnt (nB b) (nI a) (i + 1) = cnt (nB b) (nI a) i + (if nI (b i) = nI a then 1 else 0) := rfl
              unfold wp_Model_fits_39
              rw [nI_1]
              refine ⟨vp_in_nI (by omega) (by decide), fun hne => ?_, fun heq => ?_⟩
              · rw [if_neg hne] at ec
                have ec2 : cnt (nB b) (nI a) (i + 1) = cnt (nB b) (nI a) i := ec
                rw [← ec2]
                exact ihm (i + 1) (by omega) (by omega)
              · rw [if_pos heq] at ec
                rw [nI_1, ← ec]
                exact ihm (i + 1) (by omega) (by omega)
        exact inner N 0 (by omega) (by omega)
  exact loopA N 0 (by omega) (by omega)
