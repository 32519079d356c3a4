/-! the reference: one use after another; price, cost, state behind -/
def curS (O : Nat → Nat) (μ : St) (v : Nat → Nat) (L : Nat) (ρ : List (List Nat)) : Prop := (∃ q lo, cur μ v L q lo ∧ rst O v L q lo = ρ) ∨ (∃ a r, ful μ v L (a :: r) ∧ rst O v L r (a + 1) = ρ)
def fulL (μ : St) (l : List Nat) : Prop := μ 33 0 = nI l.length ∧ (∀ i, i < l.length → μ 31 i = nI (l.getD i 0)) ∧ ∀ x ∈ l, x < 12
theorem Tm_mono {j : Nat} : ∀ k, j ≤ k → Tm j ≤ Tm k := by
  intro k
  induction k with
  | zero =>
    intro h
    have : j = 0 := by omega
    subst this; exact Nat.le_refl _
  | succ k ih =>
    intro h
    by_cases e : j = k + 1
    · subst e; exact Nat.le_refl _
    · have := ih (by omega)
      show _ ≤ 12 * (1 + Tm k) + 1
      omega
theorem ms_le {L : Nat} : ∀ (q : List Nat) (lo : Nat), q.length < L → ms L q lo ≤ (q.length + 1) * Tm L := by
  intro q
  induction q with
  | nil =>
    intro lo h
    have h' : 0 < L := h
    obtain ⟨k, rfl⟩ : ∃ k, L = k + 1 := ⟨L - 1, by omega⟩
    show (12 - lo) * (1 + Tm k) + 1 ≤ (0 + 1) * (12 * (1 + Tm k) + 1)
    have : (12 - lo) * (1 + Tm k) ≤ 12 * (1 + Tm k) := Nat.mul_le_mul_right _ (by omega)
    omega
  | cons a r ih =>
    intro lo h
    rw [List.length_cons] at h
    have h1 := ih (a + 1) (by omega)
    obtain ⟨k, hk⟩ : ∃ k, L - (r.length + 1) = k + 1 := ⟨L - (r.length + 1) - 1, by omega⟩
    have h2 : Tm (k + 1) ≤ Tm L := Tm_mono L (by omega)
    have h3 : Tm (k + 1) = 12 * (1 + Tm k) + 1 := rfl
    have h4 : (12 - lo) * (1 + Tm k) ≤ 12 * (1 + Tm k) := Nat.mul_le_mul_right _ (by omega)
    show (12 - lo) * (1 + Tm (L - (r.length + 1) - 1)) + 1 + ms L r (a + 1) ≤ (r.length + 1 + 1) * Tm L
    rw [hk, Nat.add_sub_cancel, Nat.succ_mul]
    omega
theorem ms_N {L : Nat} (hL : L ≤ 4) {q : List Nat} {lo : Nat} (h : q.length < L) : ms L q lo < 100000 := by
  have h1 := ms_le q lo h
  have h2 : Tm L ≤ Tm 4 := Tm_mono 4 hL
  have h3 : Tm 4 = 24505 := by decide
  have h4 : (q.length + 1) * Tm L ≤ 4 * Tm 4 := Nat.mul_le_mul (by omega) h2
  omega
theorem pf_beginUses (N : Nat) {μ : St} {bk o : Nat} {Os : Nat → Nat → Nat} (hM : repM μ bk Os) (ho : o < 6) {v : Nat → Nat} (h24 : ∀ a, a < 12 → μ 24 a = nI (v a)) (post : St → Prop) (hp : ∀ u : St, (∀ d, d ≠ 31 → d ≠ 32 → d ≠ 33 → u d = μ d) → curS (Os o) u v (uLen (Os o)) (ext (Os o) v (uLen (Os o)) 0 []) → post u) : wp_Model_beginUses N μ (nI (6 * bk + o)) post := by
  have hbk := hM.1
  unfold wp_Model_beginUses
  intro μ1 e1
  have hM1 : repM μ1 bk Os := repM_same (fun d hd => by rw [e1, s2_comp _ _ _ _ (by omega)]) hM
  have hu := uLen_le (hM.2.2 o ho).2.2.2.2.2.2
  refine pf_lengthOf N (by omega) (hM1.2.2 o ho) _ (fun μ4 e4 => ⟨vp_in_nI (n := 0) (by decide) (by decide), fun μ6 e6 => ?_⟩)
  refine hp μ6 (fun d d1 d2 d3 => by rw [e6, s2_comp _ _ _ _ d1, e4, s2_comp _ _ _ _ d3, e1, s2_comp _ _ _ _ d2]) (Or.inl ⟨[], 0, ⟨?_, ?_, by show 0 < _; omega, ⟨(fun i hi => by cases hi), (fun x hx => by cases hx), fun a ha => ⟨?_, Nat.zero_le _⟩⟩, ?_, by omega⟩, rst_all _ _ (by omega)⟩)
  · rw [e6, s2_comp _ _ _ _ (by decide), e4, s2_same]
  · rw [e6, s2_comp _ _ _ _ (by decide), e4, s2_comp _ _ _ _ (by decide), e1, s2_same]; rfl
  · rw [e6, s2_comp _ _ _ _ (by decide), e4, s2_comp _ _ _ _ (by decide), e1, s2_comp _ _ _ _ (by decide), h24 a ha]; rfl
  · show μ6 31 0 + 1 = nI 0
    rw [e6]
    show s2 μ4 31 0 (-1) 31 0 + 1 = nI 0
    rw [s2_same]; rfl
def runs1 (O : Nat → Nat) (w : Nat) : Prop := O 4 = 1 ∧ (O 3 = 0 ∨ 0 < w)
theorem pf_nextUse_no (N : Nat) {μ : St} {bk o : Nat} {Os : Nat → Nat → Nat} (hM : repM μ bk Os) (ho : o < 6) {w : Nat} (hw : w < 100) (h25 : μ 25 o = nI w) (hr : ¬ runs1 (Os o) w) (post : Int32 → St → Prop) (hp : post 0 μ) : wp_Model_nextUse N μ (nI o) post := by
  have hbk := hM.1
  obtain ⟨k1, k2, k3, k4, k5, k6, k7⟩ := hM.2.2 o ho
  have hb4 := k7.2.2.2.2.2.1
  have hb3 := k7.2.2.2.2.1
  unfold wp_Model_nextUse wp_Model_nextUse_37
  rw [hM.2.1, six, nI_clamp (by omega), nI_clamp (by omega), k5, k4, h25]
  refine ⟨vp_in_nI (by omega) (by decide), pk_eq (Os o 4) 0 (fun _ => hp) (fun h4 => ⟨vp_in_nI (by omega) (by decide), pk_le (Os o 3) 0 (fun h3 => absurd ⟨by omega, Or.inl (by omega)⟩ hr) (fun h3 => ⟨vp_in_nI ho (by decide), fun hne => ?_, fun _ => hp⟩)⟩)⟩
  refine absurd ⟨by omega, Or.inr ?_⟩ hr
  rcases Nat.eq_zero_or_pos w with h | h
  · subst h; exact absurd rfl hne
  · exact h
theorem ful_L {μ : St} {v : Nat → Nat} {L a : Nat} {r : List Nat} (h : ful μ v L (a :: r)) : fulL μ (a :: r).reverse ∧ (a :: r).reverse.length = L := by
  obtain ⟨h1, h2, h3, h4, h5, h6⟩ := h
  have hl : (a :: r).reverse.length = L := by rw [List.length_reverse]; exact h3
  refine ⟨⟨by rw [hl]; exact h1, fun i hi => h4 i (by rw [List.length_reverse] at hi; exact hi), fun x hx => h5 x (List.mem_reverse.mp hx)⟩, hl⟩
theorem pf_nextUse_go (N : Nat) (hN : 100001 ≤ N) {μ : St} {bk o : Nat} {Os : Nat → Nat → Nat} (hM : repM μ bk Os) (ho : o < 6) {w : Nat} (hw : w < 100) (h25 : μ 25 o = nI w) (hr : runs1 (Os o) w) {v : Nat → Nat} (hv : ∀ a, a < 12 → v a < 100) {ρ : List (List Nat)} (hc : curS (Os o) μ v (uLen (Os o)) ρ) (post : Int32 → St → Prop)
    (h0 : ρ = [] → ∀ u : St, (∀ d, d ≠ 24 → d ≠ 31 → d ≠ 32 → u d = μ d) → (∀ a, a < 12 → u 24 a = nI (v a)) → post 0 u)
    (h1 : ∀ l ρ2, ρ = l :: ρ2 → ∀ u : St, (∀ d, d ≠ 24 → d ≠ 31 → d ≠ 32 → u d = μ d) → curS (Os o) u v (uLen (Os o)) ρ2 → fulL u l → l.length = uLen (Os o) → post 1 u) : wp_Model_nextUse N μ (nI o) post := by
  have hbk := hM.1
  have hKo := hM.2.2 o ho
  obtain ⟨k1, k2, k3, k4, k5, k6, k7⟩ := hM.2.2 o ho
  have hb4 := k7.2.2.2.2.2.1
  have hb3 := k7.2.2.2.2.1
  have hu := uLen_le k7
  obtain ⟨r4, r3⟩ := hr
  have main : wp_Model_nextUse_39 N post (nI (6 * bk + o)) μ := by
    unfold wp_Model_nextUse_39
    rcases hc with ⟨q, lo, hc, e⟩ | ⟨a, r, hf, e⟩
    · obtain ⟨c33, c32, cL, -⟩ := id hc
      rw [c32, c33]
      refine ⟨fun _ => ?_, fun h => absurd ((eqL (by omega) (by omega)).mp h) (by omega)⟩
      rw [← e] at h0 h1
      refine pf_next78 N hbk ho rfl hv μ hKo post N q lo μ (by have := ms_N hu.2 (lo := lo) cL; omega) (fun _ _ _ _ => rfl) hc h0 (fun a r hr u hf2 hful => ?_)
      exact h1 _ _ hr u hf2 (Or.inr ⟨a, r, hful, rfl⟩) (ful_L hful).1 (ful_L hful).2
    · obtain ⟨c33, c32, c3, cl⟩ := hf
      have c3' : r.length + 1 = uLen (Os o) := c3
      have ha : a < 12 := cl.2.1 a List.mem_cons_self
      rw [c32, c33]
      refine ⟨fun h => absurd rfl h, fun _ => fun μ8 e8 => ?_⟩
      have g32 : μ8 32 0 = nI r.length := by rw [e8, s2_same, ← c3', subM1]
      have g31 : μ8 31 = μ 31 := by rw [e8, s2_comp _ _ _ _ (by decide)]
      have g24 : μ8 24 = μ 24 := by rw [e8, s2_comp _ _ _ _ (by decide)]
      have t31 : μ8 31 r.length = nI a := by rw [g31, cl.1 r.length (by rw [List.length_cons]; omega), rev_top]
      rw [g32, nI_clamp (by omega), t31, nI_clamp (by omega)]
      refine ⟨vp_in_nI (by omega) (by decide), vp_in_nI ha (by decide), vp_in_nI ha (by decide), fun μ12 e12 => ?_⟩
      have f12 : ∀ d, d ≠ 24 → d ≠ 31 → d ≠ 32 → μ12 d = μ d := fun d d1 d2 d3 => by rw [e12, s2_comp _ _ _ _ d1, e8, s2_comp _ _ _ _ d3]
      have k24 : μ12 24 = s2 μ 24 a (μ 24 a + 1) 24 := by
        rw [e12, g24]
        funext i
        by_cases e : i = a
        · subst e; rw [s2_same, s2_same]
        · rw [s2_ne _ _ _ _ (Or.inr e), s2_ne _ _ _ _ (Or.inr e), g24]
      obtain ⟨p1, p2⟩ := lst_pop cl (w := μ12) (by rw [e12, s2_comp _ _ _ _ (by decide), g31]) k24
      rw [← e] at h0 h1
      refine pf_next78 N hbk ho rfl hv μ hKo post N r (a + 1) μ12 (by have := ms_N hu.2 (lo := a + 1) (q := r) (show r.length < uLen (Os o) by omega); omega) f12 ⟨?_, ?_, by omega, p1, p2, by omega⟩ h0 (fun a r hr u hf2 hful => ?_)
      · rw [e12, s2_comp _ _ _ _ (by decide), e8, s2_comp _ _ _ _ (by decide)]; exact c33
      · rw [e12, s2_comp _ _ _ _ (by decide)]; exact g32
      · exact h1 _ _ hr u hf2 (Or.inr ⟨a, r, hful, rfl⟩) (ful_L hful).1 (ful_L hful).2
  unfold wp_Model_nextUse
  rw [hM.2.1, six, nI_clamp (by omega), nI_clamp (by omega), k5, k4, h25]
  refine ⟨vp_in_nI (by omega) (by decide), pk_eq (Os o 4) 0 (fun h => by omega) (fun h4 => ⟨vp_in_nI (by omega) (by decide), pk_le (Os o 3) 0 (fun h3 => main) (fun h3 => ⟨vp_in_nI ho (by decide), fun _ => main, fun he => ?_⟩)⟩)⟩
  have : w = 0 := (eqL (by omega) (by decide)).mp he
  omega
/-! lists as sums -/
def sG (C : Nat → Nat) (l : List Nat) : Nat → Nat
  | 0 => 0
  | i + 1 => sG C l i + C (l.getD i 0)
theorem tk_snoc {l : List Nat} {i : Nat} (h : i < l.length) : l.take (i + 1) = l.take i ++ [l.getD i 0] := by
  rw [List.getD_eq_getElem?_getD, List.getElem?_eq_getElem h, Option.getD_some, List.take_append_getElem h]
theorem sG_pr (C : Nat → Nat) {l : List Nat} (hx : ∀ x ∈ l, x < 12) : ∀ i, i ≤ l.length → sG C l i = pr C (fun a => (l.take i).count a) 12 := by
  intro i
  induction i with
  | zero => intro _; symm; exact pr_zero C 12 (fun d _ => by rw [List.take_zero]; exact List.count_nil)
  | succ i ih =>
    intro h
    have hi : i < l.length := by omega
    show sG C l i + C (l.getD i 0) = _
    rw [ih (by omega), tk_snoc hi]
    have e : pr C (fun a => (l.take i ++ [l.getD i 0]).count a) 12 = pr C (fun a => (l.take i).count a + unitV (l.getD i 0) a) 12 := pr_congr 12 (fun d _ => by
      rw [cnt_snoc]
      unfold unitV
      by_cases e : l.getD i 0 = d
      · rw [if_pos e, if_pos e.symm]
      · rw [if_neg e, if_neg (fun h => e h.symm)])
    rw [e, pr_add, pr_unit, if_pos (hx _ (getD_mem hi))]
theorem sG_uP (C : Nat → Nat) {o : Nat} {l : List Nat} (hx : ∀ x ∈ l, x < 12) : sG C l l.length = uP C (o, l) := by
  rw [sG_pr C hx l.length (Nat.le_refl _), List.take_length]
  rfl
theorem encN_pr (t c : Nat → Nat) : ∀ n, encN t c n = pr (str t) c n := by
  intro n
  induction n with
  | zero => rfl
  | succ n ih => rw [encN_s, pr_s, ih]
theorem sG_cdU (t : Nat → Nat) {l : List Nat} (hx : ∀ x ∈ l, x < 12) : sG (str t) l l.length = cdU t l := by
  rw [sG_pr (str t) hx l.length (Nat.le_refl _), List.take_length]
  exact (encN_pr t _ 12).symm
theorem sG_mono (C : Nat → Nat) (l : List Nat) {i : Nat} : ∀ j, i ≤ j → sG C l i ≤ sG C l j := by
  intro j
  induction j with
  | zero =>
    intro h
    have : i = 0 := by omega
    subst this; exact Nat.le_refl _
  | succ j ih =>
    intro h
    by_cases e : i = j + 1
    · subst e; exact Nat.le_refl _
    · have := ih (by omega)
      show _ ≤ sG C l j + _
      omega
theorem pf_priceOfList (N : Nat) (hN : 5 ≤ N) {μ : St} {l : List Nat} (hl : fulL μ l) (h4 : l.length ≤ 4) {C : Nat → Nat} (hC : ∀ x ∈ l, μ 28 x = nI (C x)) (o : Nat) (post : Int32 → Unit → Prop) (hp : post (nI (uP C (o, l))) ()) : wp_Model_priceOfList N μ post := by
  obtain ⟨l1, l2, l3⟩ := hl
  have loop : ∀ (n i : Nat), i ≤ l.length → l.length - i < n → wp_Model_priceOfList_4 N μ post n (nI (sG C l i)) (nI i) := by
    intro n
    induction n with
    | zero => intro i _ h; omega
    | succ n ih =>
      intro i hi hn
      rw [wp_Model_priceOfList_4, l1]
      refine pk_le l.length i (fun hq => ?_) (fun hq => ?_)
      · have : i = l.length := by omega
        subst this
        rw [sG_uP C (o := o) l3]; exact hp
      · have hm := getD_mem hq
        have h12 := l3 _ hm
        rw [nI_clamp (by omega), l2 i hq, nI_clamp (by omega), hC _ hm, nI_add, nI_1]
        exact ⟨vp_in_nI (by omega) (by decide), vp_in_nI h12 (by decide), ih (i + 1) (by omega) (by omega)⟩
  exact loop N 0 (by omega) (by omega)
theorem lowP_mem {C c : Nat → Nat} {a : Nat} (hc : 0 < c a) : ∀ n, a < n → lowP C c n ≤ C a := by
  intro n
  induction n with
  | zero => intro h; omega
  | succ n ih =>
    intro h
    unfold lowP
    by_cases e : a = n
    · subst e
      rw [if_pos hc]
      split <;> omega
    · have := ih (by omega)
      split
      · split <;> omega
      · exact this
theorem lowP_att (C c : Nat → Nat) : ∀ n, lowP C c n = 100000 ∨ ∃ a, a < n ∧ 0 < c a ∧ lowP C c n = C a := by
  intro n
  induction n with
  | zero => exact Or.inl rfl
  | succ n ih =>
    unfold lowP
    have keep : lowP C c n = 100000 ∨ ∃ a, a < n + 1 ∧ 0 < c a ∧ lowP C c n = C a := by
      rcases ih with h | ⟨a, h1, h2, h3⟩
      · exact Or.inl h
      · exact Or.inr ⟨a, by omega, h2, h3⟩
    split
    · rename_i h0
      split
      · exact Or.inr ⟨n, by omega, h0, rfl⟩
      · exact keep
    · exact keep
theorem lowP_is {C : Nat → Nat} {l : List Nat} (hC : ∀ a, a < 12 → C a ≤ 100000) (hx : ∀ x ∈ l, x < 12) {m : Nat} (h1 : ∃ j, j < l.length ∧ m = C (l.getD j 0)) (h2 : ∀ j, j < l.length → m ≤ C (l.getD j 0)) : m = lowP C (fun a => l.count a) 12 := by
  obtain ⟨j, hj, rfl⟩ := h1
  have hm := getD_mem hj
  have hc := List.count_pos_iff.mpr hm
  have g1 := lowP_mem (C := C) (c := fun a => l.count a) (a := l.getD j 0) hc 12 (hx _ hm)
  refine Nat.le_antisymm ?_ g1
  rcases lowP_att C (fun a => l.count a) 12 with h | ⟨a, ha, hca, h⟩
  · have := hC _ (hx _ hm); omega
  · rw [h]
    have hma : a ∈ l := List.count_pos_iff.mp hca
    obtain ⟨i, hi, e⟩ := List.getElem_of_mem hma
    have e2 : l.getD i 0 = a := by rw [List.getD_eq_getElem?_getD, List.getElem?_eq_getElem hi]; exact e
    have := h2 i hi
    rw [e2] at this; exact this
theorem pf_costOfUse (N : Nat) (hN : 5 ≤ N) {μ : St} {bk o : Nat} {Os : Nat → Nat → Nat} (hM : repM μ bk Os) (ho : o < 6) {l : List Nat} (hl : fulL μ l) (h0 : 0 < l.length) (h4 : l.length ≤ 4) {C : Nat → Nat} (hC : ∀ x ∈ l, μ 28 x = nI (C x)) (hCb : ∀ a, a < 12 → C a ≤ 100000) (post : Int32 → Unit → Prop) (hp : post (nI (uC Os C (o, l))) ()) : wp_Model_costOfUse N μ (nI (6 * bk + o)) post := by
  have hbk := hM.1
  obtain ⟨k1, k2, k3, k4, k5, k6, k7⟩ := hM.2.2 o ho
  have hk := k7.1
  have hv := k7.2.2.2.1
  obtain ⟨l1, l2, l3⟩ := id hl
  have hcn : sm (fun a => l.count a) 12 = l.length := sm_count l l3
  have hP : uP C (o, l) ≤ 400000 := by
    have := pr_le (c := fun a => l.count a) hCb 12 (by omega)
    rw [hcn] at this
    show pr C (fun a => l.count a) 12 ≤ _
    omega
  have e19 : Os o 0 = 0 ∨ Os o 0 = 2 → wp_Model_costOfUse_19 N μ post (nI (6 * bk + o)) := by
    intro h
    unfold wp_Model_costOfUse_19
    rw [nI_clamp (by omega), k3]
    refine ⟨vp_in_nI (by omega) (by decide), ?_⟩
    unfold uC uCost at hp
    rw [if_neg (by show ¬ Os o 0 = 1; omega), if_neg (by show ¬ Os o 0 = 3; omega)] at hp
    exact hp
  have fin : Os o 0 = 1 ∨ Os o 0 = 3 → ∀ m, m = lowP C (fun a => l.count a) 12 → m ≤ uP C (o, l) → (vp_in (nI (6 * bk + o)) 78 ∧ ((¬ (μ 2 (Int32.toNatClampNeg (nI (6 * bk + o)))) = 1 → (vp_in (nI (6 * bk + o)) 78 ∧ (((μ 4 (Int32.toNatClampNeg (nI (6 * bk + o)))) ≤ 100 → (vp_in (nI (6 * bk + o)) 78 ∧ (wp_Model_costOfUse_120 N μ post (nI m) (μ 4 (Int32.toNatClampNeg (nI (6 * bk + o))))))) ∧ (¬ ((μ 4 (Int32.toNatClampNeg (nI (6 * bk + o)))) ≤ 100) → (wp_Model_costOfUse_120 N μ post (nI m) 100))))) ∧ ((μ 2 (Int32.toNatClampNeg (nI (6 * bk + o)))) = 1 → wp_Model_priceOfList N μ (fun r14 u13 => post (r14 - (nI m)) ())))) := by
    intro hkk m em hmP
    have hin : vp_in (nI (6 * bk + o)) 78 := vp_in_nI (by omega) (by decide)
    have hm5 : m ≤ 100000 := by rw [em]; exact lowP_le _ _ 12
    rw [nI_clamp (by omega), k1, k3]
    unfold uC uCost at hp
    have hP3 : ∀ p, p ≤ 100 → (if Os o 2 < 100 then Os o 2 else 100) = p → Os o 0 = 3 → wp_Model_costOfUse_120 N μ post (nI m) (nI p) := by
      intro p hp100 ep e3
      unfold wp_Model_costOfUse_120
      refine pf_priceOfList N hN hl h4 hC o _ ?_
      have hmul : m * p ≤ m * 100 := Nat.mul_le_mul_left _ hp100
      rw [pk_mul, show (50 : Int32) = nI 50 from rfl, show (100 : Int32) = nI 100 from rfl, nI_add, pk_div (by omega) (by decide) (by decide), pk_sub hmP, nI_add]
      rw [if_neg (by show ¬ Os o 0 = 1; omega), if_pos (show Os (o, l).1 0 = 3 from e3)] at hp
      rw [em, ← ep]
      exact hp
    refine ⟨hin, fun hne => ⟨hin, ?_⟩, fun heq => ?_⟩
    · have e3 : Os o 0 = 3 := by
        rcases hkk with h | h
        · exact absurd (by rw [h]; rfl) hne
        · exact h
      exact pk_le (Os o 2) 100 (fun h => ⟨hin, hP3 (Os o 2) h (by split <;> omega) e3⟩) (fun h => hP3 100 (by omega) (by rw [if_neg (by omega)]) e3)
    · have e1 : Os o 0 = 1 := (eqL (by omega) (by decide)).mp heq
      refine pf_priceOfList N hN hl h4 hC o _ ?_
      rw [pk_sub hmP]
      rw [if_pos (show Os (o, l).1 0 = 1 from e1)] at hp
      rw [em]; exact hp
  have loop : Os o 0 = 1 ∨ Os o 0 = 3 → ∀ (n i m : Nat), 1 ≤ i → i ≤ l.length → l.length - i < n → (∃ j, j < i ∧ m = C (l.getD j 0)) → (∀ j, j < i → m ≤ C (l.getD j 0)) → wp_Model_costOfUse_40 N μ post n (nI (6 * bk + o)) (nI m) (nI i) := by
    intro hkk n
    induction n with
    | zero => intro i m _ _ h; omega
    | succ n ih =>
      intro i m hi1 hi hn hj1 hj2
      rw [wp_Model_costOfUse_40, l1]
      refine pk_le l.length i (fun hq => ?_) (fun hq => ?_)
      · have : i = l.length := by omega
        subst this
        have em := lowP_is hCb l3 hj1 hj2
        refine fin hkk m em ?_
        rw [em]
        have hm0 := getD_mem (show 0 < l.length from h0)
        exact lowP_pr (a := l.getD 0 0) (List.count_pos_iff.mpr hm0) 12 (l3 _ hm0)
      · have hm := getD_mem hq
        have h12 := l3 _ hm
        have hCi := hCb _ h12
        obtain ⟨j, hjj, ej⟩ := hj1
        have hmb : m ≤ 100000 := by rw [ej]; exact hCb _ (l3 _ (getD_mem (show j < l.length by omega)))
        rw [nI_clamp (by omega), l2 i hq, nI_clamp (by omega), hC _ hm]
        unfold wp_Model_costOfUse_75
        rw [nI_1]
        refine ⟨vp_in_nI (by omega) (by decide), vp_in_nI h12 (by decide), pk_le m (C (l.getD i 0)) (fun h => ?_) (fun h => ⟨vp_in_nI (by omega) (by decide), vp_in_nI h12 (by decide), ?_⟩)⟩
        · refine ih (i + 1) m (by omega) (by omega) (by omega) ⟨j, by omega, ej⟩ (fun k hk => ?_)
          by_cases e : k = i
          · subst e; exact h
          · exact hj2 k (by omega)
        · refine ih (i + 1) _ (by omega) (by omega) (by omega) ⟨i, by omega, rfl⟩ (fun k hk => ?_)
          by_cases e : k = i
          · subst e; exact Nat.le_refl _
          · have := hj2 k (by omega); omega
  unfold wp_Model_costOfUse
  have hin : vp_in (nI (6 * bk + o)) 78 := vp_in_nI (by omega) (by decide)
  have hm0 := getD_mem (show 0 < l.length from h0)
  have h12 := l3 _ hm0
  have hz : Int32.toNatClampNeg 0 = 0 := rfl
  rw [hz, nI_clamp (by omega), k1, l2 0 h0, nI_clamp (by omega), hC _ hm0]
  refine ⟨hin, pk_eq (Os o 0) 0 (fun h => e19 (Or.inl h)) (fun h => ⟨hin, fun hne => ⟨vp_in_nI (n := 0) (by decide) (by decide), vp_in_nI h12 (by decide), ?_⟩, fun heq => ?_⟩)⟩
  · have h2 : ¬ Os o 0 = 2 := fun e => hne (by rw [e]; rfl)
    exact loop (by omega) N 1 _ (by omega) (by omega) (by omega) ⟨0, by omega, rfl⟩ (fun j hj => by rw [show j = 0 by omega]; exact Nat.le_refl _)
  · exact e19 (Or.inr ((eqL (by omega) (by decide)).mp heq))
theorem pf_behindUse (N : Nat) (hN : 5 ≤ N) {μ : St} {o : Nat} (ho : o < 6) {l : List Nat} (hl : fulL μ l) (h4 : l.length ≤ 4) {t : Nat → Nat} (h26 : ∀ x ∈ l, μ 26 x = nI (str t x)) (h27 : μ 27 o = nI (pl t (12 + o))) {s : Nat} (hs : stp t (o, l) ≤ s) (post : Int32 → Unit → Prop) (hp : post (nI (s - stp t (o, l))) ()) : wp_Model_behindUse N μ (nI s) (nI o) post := by
  obtain ⟨l1, l2, l3⟩ := hl
  have e : stp t (o, l) = sG (str t) l l.length + pl t (12 + o) := by
    rw [stp_eq ho, sG_cdU t l3]; rfl
  rw [e] at hs hp
  have loop : ∀ (n i : Nat), i ≤ l.length → l.length - i < n → wp_Model_behindUse_12 N μ post n (nI (s - pl t (12 + o) - sG (str t) l i)) (nI i) := by
    intro n
    induction n with
    | zero => intro i _ h; omega
    | succ n ih =>
      intro i hi hn
      rw [wp_Model_behindUse_12, l1]
      refine pk_le l.length i (fun hq => ?_) (fun hq => ?_)
      · have : i = l.length := by omega
        subst this
        rw [show s - pl t (12 + o) - sG (str t) l l.length = s - (sG (str t) l l.length + pl t (12 + o)) by omega]; exact hp
      · have hm := getD_mem hq
        have h12 := l3 _ hm
        have hmo := sG_mono (str t) l (i := i + 1) l.length (by omega)
        have hst : sG (str t) l (i + 1) = sG (str t) l i + str t (l.getD i 0) := rfl
        rw [nI_clamp (by omega), l2 i hq, nI_clamp (by omega), h26 _ hm, pk_sub (by omega), nI_1]
        have := ih (i + 1) (by omega) (by omega)
        rw [hst] at this
        rw [show s - pl t (12 + o) - sG (str t) l i - str t (l.getD i 0) = s - pl t (12 + o) - (sG (str t) l i + str t (l.getD i 0)) by omega]
        exact ⟨vp_in_nI (by omega) (by decide), vp_in_nI h12 (by decide), this⟩
  unfold wp_Model_behindUse
  rw [nI_clamp (by omega), h27, pk_sub (by omega)]
  exact ⟨vp_in_nI ho (by decide), loop N 0 (by omega) (by omega)⟩
theorem pf_listHas (N : Nat) (hN : 5 ≤ N) {μ : St} {l : List Nat} (hl : fulL μ l) (h4 : l.length ≤ 4) {a : Nat} (ha : a < 12) (post : Int32 → Unit → Prop) (h0 : ¬ a ∈ l → post 0 ()) (h1 : a ∈ l → post 1 ()) : wp_Model_listHas N μ (nI a) post := by
  obtain ⟨l1, l2, l3⟩ := hl
  have loop : ∀ (n i : Nat), i ≤ l.length → l.length - i < n → (∀ j, j < i → l.getD j 0 ≠ a) → wp_Model_listHas_2 N μ post n (nI a) (nI i) := by
    intro n
    induction n with
    | zero => intro i _ h; omega
    | succ n ih =>
      intro i hi hn hj
      rw [wp_Model_listHas_2, l1]
      refine pk_le l.length i (fun hq => ?_) (fun hq => ?_)
      · refine h0 (fun hm => ?_)
        obtain ⟨k, hk, e⟩ := List.getElem_of_mem hm
        exact hj k (by omega) (by rw [List.getD_eq_getElem?_getD, List.getElem?_eq_getElem hk]; exact e)
      · have hm := getD_mem hq
        have h12 := l3 _ hm
        rw [nI_clamp (by omega), l2 i hq, eqL (by omega) (by omega), nI_1]
        refine ⟨vp_in_nI (by omega) (by decide), fun hne => ih (i + 1) (by omega) (by omega) (fun j hj2 => ?_), fun he => h1 (he ▸ hm)⟩
        by_cases e : j = i
        · subst e; exact hne
        · exact hj j (by omega)
  exact loop N 0 (by omega) (by omega) (fun j hj => by omega)
