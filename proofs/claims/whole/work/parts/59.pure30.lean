/-! the reference's cursor over the lists of a use -/
def gx (O v : Nat → Nat) (L : Nat) (pre : List Nat) : Nat → List (List Nat) := fun a => if pre.count a < v a ∧ tk O pre.length a = true then ext O v (L - pre.length - 1) (if O 0 = 2 then 0 else a) (pre ++ [a]) else []
def rst (O v : Nat → Nat) (L : Nat) : List Nat → Nat → List (List Nat)
  | [], lo => exL (gx O v L []) (12 - lo) lo
  | a :: r, lo => exL (gx O v L (r.reverse ++ [a])) (12 - lo) lo ++ rst O v L r (a + 1)
def Tm : Nat → Nat
  | 0 => 0
  | k + 1 => 12 * (1 + Tm k) + 1
def ms (L : Nat) : List Nat → Nat → Nat
  | [], lo => (12 - lo) * (1 + Tm (L - 1)) + 1
  | a :: r, lo => (12 - lo) * (1 + Tm (L - (r.length + 1) - 1)) + 1 + ms L r (a + 1)
theorem ms_pos (L : Nat) (q : List Nat) (lo : Nat) : 0 < ms L q lo := by
  cases q with
  | nil => unfold ms; omega
  | cons a r => unfold ms; omega
theorem ms_step (L : Nat) (q : List Nat) {lo : Nat} (h : lo < 12) : ms L q lo = (1 + Tm (L - q.length - 1)) + ms L q (lo + 1) := by
  have h1 : 12 - lo = (12 - (lo + 1)) + 1 := by omega
  cases q with
  | nil =>
    unfold ms
    rw [h1, Nat.succ_mul]
    show _ = 1 + Tm (L - 0 - 1) + _
    rw [Nat.sub_zero]; omega
  | cons a r =>
    unfold ms
    rw [h1, Nat.succ_mul]
    show _ = 1 + Tm (L - (r.length + 1) - 1) + _
    omega
theorem rst_step (O v : Nat → Nat) (L : Nat) (q : List Nat) {lo : Nat} (h : lo < 12) : rst O v L q lo = gx O v L q.reverse lo ++ rst O v L q (lo + 1) := by
  have h1 : 12 - lo = (12 - (lo + 1)) + 1 := by omega
  cases q with
  | nil =>
    unfold rst
    rw [h1]
    rfl
  | cons a r =>
    unfold rst
    rw [h1, List.reverse_cons, ← List.append_assoc]
    rfl
theorem rst_12 (O v : Nat → Nat) (L a : Nat) (r : List Nat) : rst O v L (a :: r) 12 = rst O v L r (a + 1) := by
  show exL (gx O v L (r.reverse ++ [a])) 0 12 ++ rst O v L r (a + 1) = _
  rfl
theorem ext_s (O t : Nat → Nat) (k lo : Nat) (pre : List Nat) : ext O t (k + 1) lo pre = exL (fun a => if pre.count a < t a ∧ tk O pre.length a = true then ext O t k (if O 0 = 2 then 0 else a) (pre ++ [a]) else []) (12 - lo) lo := rfl
theorem rst_push (O v : Nat → Nat) (L : Nat) (q : List Nat) {lo : Nat} (h : lo < 12) (hc : q.reverse.count lo < v lo ∧ tk O q.reverse.length lo = true) (hL : q.length + 1 < L) : rst O v L q lo = rst O v L (lo :: q) (if O 0 = 2 then 0 else lo) := by
  rw [rst_step O v L q h]
  show gx O v L q.reverse lo ++ rst O v L q (lo + 1) = exL (gx O v L (q.reverse ++ [lo])) (12 - (if O 0 = 2 then 0 else lo)) (if O 0 = 2 then 0 else lo) ++ rst O v L q (lo + 1)
  congr 1
  unfold gx
  rw [if_pos hc]
  obtain ⟨k, hk⟩ : ∃ k, L - q.reverse.length - 1 = k + 1 := ⟨L - q.reverse.length - 2, by rw [List.length_reverse]; omega⟩
  rw [hk, ext_s]
  rw [show L - (q.reverse ++ [lo]).length - 1 = k by rw [List.length_append, List.length_singleton]; omega]
theorem rst_last (O v : Nat → Nat) (L : Nat) (q : List Nat) {lo : Nat} (h : lo < 12) (hc : q.reverse.count lo < v lo ∧ tk O q.reverse.length lo = true) (hL : q.length + 1 = L) : rst O v L q lo = (lo :: q).reverse :: rst O v L q (lo + 1) := by
  rw [rst_step O v L q h]
  unfold gx
  rw [if_pos hc, show L - q.reverse.length - 1 = 0 by rw [List.length_reverse]; omega]
  unfold ext
  rw [List.reverse_cons]
  rfl
theorem rst_skip (O v : Nat → Nat) (L : Nat) (q : List Nat) {lo : Nat} (h : lo < 12) (hc : ¬ (q.reverse.count lo < v lo ∧ tk O q.reverse.length lo = true)) : rst O v L q lo = rst O v L q (lo + 1) := by
  rw [rst_step O v L q h]
  unfold gx
  rw [if_neg hc, List.nil_append]
theorem rst_all (O v : Nat → Nat) {L : Nat} (hL : 0 < L) : rst O v L [] 0 = ext O v L 0 [] := by
  obtain ⟨k, rfl⟩ : ∃ k, L = k + 1 := ⟨L - 1, by omega⟩
  rfl
/-- the list and what is left behind it -/
def lst (μ : St) (v : Nat → Nat) (q : List Nat) : Prop := (∀ i, i < q.length → μ 31 i = nI (q.reverse.getD i 0)) ∧ (∀ x ∈ q, x < 12) ∧ ∀ a, a < 12 → μ 24 a = nI (v a - q.count a) ∧ q.count a ≤ v a
def cur (μ : St) (v : Nat → Nat) (L : Nat) (q : List Nat) (lo : Nat) : Prop := μ 33 0 = nI L ∧ μ 32 0 = nI q.length ∧ q.length < L ∧ lst μ v q ∧ μ 31 q.length + 1 = nI lo ∧ lo ≤ 12
def ful (μ : St) (v : Nat → Nat) (L : Nat) (q : List Nat) : Prop := μ 33 0 = nI L ∧ μ 32 0 = nI L ∧ q.length = L ∧ lst μ v q
theorem rev_get (a : Nat) (r : List Nat) {i : Nat} (h : i < r.length) : (a :: r).reverse.getD i 0 = r.reverse.getD i 0 := by
  rw [List.reverse_cons, getD_app_l (by rw [List.length_reverse]; exact h)]
theorem rev_top (a : Nat) (r : List Nat) : (a :: r).reverse.getD r.length 0 = a := by
  rw [List.reverse_cons, List.getD_eq_getElem?_getD, List.getElem?_append_right (by rw [List.length_reverse]; exact Nat.le_refl _), List.length_reverse, Nat.sub_self]
  rfl
theorem cnt_cons (a b : Nat) (r : List Nat) : (a :: r).count b = r.count b + (if a = b then 1 else 0) := by
  rw [List.count_cons]
  by_cases h : a = b
  · simp [h]
  · simp [h]
theorem subM1 (n : Nat) : nI (n + 1) - 1 = nI n := by
  rw [show (1 : Int32) = nI 1 from rfl, pk_sub (by omega), Nat.add_sub_cancel]
theorem m1_lt : (nI 0 - 1 : Int32) < 0 := by decide
theorem m1_ne {L : Nat} (h : L ≤ 4) : ¬ (nI 0 - 1 : Int32) = nI L := by
  have : ∀ L, L ≤ 4 → ¬ (nI 0 - 1 : Int32) = nI L := by decide +kernel
  exact this L h
theorem sub_add1 (x : Int32) : x - 1 + 1 = x := Int32.sub_add_cancel x 1
/-- back to the place ahead -/
theorem lst_pop {μ w : St} {v : Nat → Nat} {a : Nat} {r : List Nat} (h : lst μ v (a :: r)) (h31 : w 31 = μ 31) (h24 : w 24 = s2 μ 24 a (μ 24 a + 1) 24) : lst w v r ∧ w 31 r.length + 1 = nI (a + 1) := by
  obtain ⟨h1, h2, h3⟩ := h
  refine ⟨⟨fun i hi => ?_, fun x hx => h2 x (List.mem_cons_of_mem _ hx), fun b hb => ?_⟩, ?_⟩
  · rw [h31, h1 i (by rw [List.length_cons]; omega), rev_get a r hi]
  · obtain ⟨q1, q2⟩ := h3 b hb
    rw [cnt_cons] at q1 q2
    rw [h24]
    by_cases e : a = b
    · subst e
      rw [if_pos rfl] at q1 q2
      rw [s2_same, q1, nI_1, show v a - (r.count a + 1) + 1 = v a - r.count a by omega]
      exact ⟨rfl, by omega⟩
    · rw [if_neg e] at q1 q2
      rw [s2_ne _ _ _ _ (Or.inr (fun h => e h.symm))]
      exact ⟨q1, q2⟩
  · rw [h31, h1 r.length (by rw [List.length_cons]; omega), rev_top, nI_1]
theorem pf_next78 (N : Nat) {bk o : Nat} {O v : Nat → Nat} {L : Nat} (hbk : bk ≤ 12) (ho : o < 6) (hL : L = uLen O) (hv : ∀ a, a < 12 → v a < 100) (μ0 : St) (hK : repK μ0 (6 * bk + o) O) (post : Int32 → St → Prop) :
    ∀ (n : Nat) (q : List Nat) (lo : Nat) (μ : St), ms L q lo < n → (∀ d, d ≠ 24 → d ≠ 31 → d ≠ 32 → μ d = μ0 d) → cur μ v L q lo →
    (rst O v L q lo = [] → ∀ u : St, (∀ d, d ≠ 24 → d ≠ 31 → d ≠ 32 → u d = μ0 d) → (∀ a, a < 12 → u 24 a = nI (v a)) → post 0 u) →
    (∀ a r, rst O v L q lo = (a :: r).reverse :: rst O v L r (a + 1) → ∀ u : St, (∀ d, d ≠ 24 → d ≠ 31 → d ≠ 32 → u d = μ0 d) → ful u v L (a :: r) → post 1 u) → wp_Model_nextUse_78 N post n (nI (6 * bk + o)) μ := by
  have hO := hK.2.2.2.2.2.2
  have hu := uLen_le hO
  rw [← hL] at hu
  intro n
  induction n with
  | zero => intro q lo μ h; omega
  | succ n ih =>
    intro q lo μ hn hf hc h0 h1
    obtain ⟨c33, c32, cL, cl, c31, clo⟩ := hc
    rw [wp_Model_nextUse_78, c32, c33]
    refine ⟨fun h => absurd h (nI_pos (by omega)), fun _ => pk_le L q.length (fun h => by omega) (fun _ => ⟨vp_in_nI (by omega) (by decide), vp_in_nI (by omega) (by decide), fun μ17 e17 => ?_⟩)⟩
    rw [nI_clamp (by omega), c31] at e17
    have f17 : ∀ d, d ≠ 24 → d ≠ 31 → d ≠ 32 → μ17 d = μ0 d := fun d d1 d2 d3 => by rw [e17, s2_comp _ _ _ _ d2]; exact hf d d1 d2 d3
    have g32 : μ17 32 0 = nI q.length := by rw [e17, s2_comp _ _ _ _ (by decide)]; exact c32
    have g33 : μ17 33 0 = nI L := by rw [e17, s2_comp _ _ _ _ (by decide)]; exact c33
    have g24 : μ17 24 = μ 24 := by rw [e17, s2_comp _ _ _ _ (by decide)]
    have g31 : μ17 31 q.length = nI lo := by rw [e17, s2_same]
    have gl : lst μ17 v q := ⟨fun i hi => by rw [e17, s2_ne _ _ _ _ (Or.inr (by omega))]; exact cl.1 i hi, cl.2.1, by rw [g24]; exact cl.2.2⟩
    have gK : repK μ17 (6 * bk + o) O := by
      obtain ⟨k1, k2, k3, k4, k5, k6, k7⟩ := hK
      unfold repK
      rw [f17 2 (by decide) (by decide) (by decide), f17 3 (by decide) (by decide) (by decide), f17 4 (by decide) (by decide) (by decide), f17 5 (by decide) (by decide) (by decide), f17 6 (by decide) (by decide) (by decide), f17 7 (by decide) (by decide) (by decide)]
      exact ⟨k1, k2, k3, k4, k5, k6, k7⟩
    rw [g32, nI_clamp (show q.length < 2 ^ 31 by omega), g31]
    refine ⟨vp_in_nI (by omega) (by decide), fun hne => ?_, fun heq => fun μ36 e36 => ?_⟩
    · have hlo : lo < 12 := by
        rcases Nat.lt_or_ge lo 12 with h | h
        · exact h
        · exact absurd (by rw [show lo = 12 by omega]; rfl) hne
      have hms := ms_step L q hlo
      have next : ¬ (q.reverse.count lo < v lo ∧ tk O q.reverse.length lo = true) → wp_Model_nextUse_78 N post n (nI (6 * bk + o)) μ17 := by
        intro hcn
        have e := rst_skip O v L q hlo hcn
        rw [e] at h0
        refine ih q (lo + 1) μ17 (by omega) f17 ⟨g33, g32, cL, gl, by rw [g31, nI_1], by omega⟩ h0 (fun a r hr => h1 a r (by rw [e]; exact hr))
      refine pf_setOf N (by omega) (by omega) gK _ ⟨vp_in_nI (by omega) (by decide), ?_⟩
      have hsi : sIdx O q.length < 4 := by unfold sIdx; split <;> omega
      rw [bitN (hO.2.2.2.2.2.2 _ hsi) hlo]
      by_cases ht : (O (5 + sIdx O q.length)).testBit lo = true
      · have htk : tk O q.reverse.length lo = true := by rw [List.length_reverse]; exact ht
        rw [if_pos ht]
        refine ⟨fun h => absurd rfl h, fun _ => ⟨vp_in_nI (by omega) (by decide), vp_in_nI hlo (by decide), ?_⟩⟩
        obtain ⟨l1, l2⟩ := gl.2.2 lo hlo
        have hvl := hv lo hlo
        rw [nI_clamp (show lo < 2 ^ 31 by omega), l1]
        refine pk_le (v lo - q.count lo) 0 (fun hz => next (fun h => by rw [List.count_reverse] at h; omega)) (fun hz => ⟨vp_in_nI (by omega) (by decide), vp_in_nI hlo (by decide), vp_in_nI hlo (by decide), fun μ30 e30 => fun μ31 e31 => ?_⟩)
        have hcond : q.reverse.count lo < v lo ∧ tk O q.reverse.length lo = true := ⟨by rw [List.count_reverse]; omega, htk⟩
        have k32 : μ31 32 0 = nI (q.length + 1) := by rw [e31, s2_same, e30, s2_comp _ _ _ _ (by decide), g32, nI_1]
        have k33 : μ31 33 0 = nI L := by rw [e31, s2_comp _ _ _ _ (by decide), e30, s2_comp _ _ _ _ (by decide)]; exact g33
        have f31 : ∀ d, d ≠ 24 → d ≠ 31 → d ≠ 32 → μ31 d = μ0 d := fun d d1 d2 d3 => by rw [e31, s2_comp _ _ _ _ d3, e30, s2_comp _ _ _ _ d1]; exact f17 d d1 d2 d3
        have k31 : μ31 31 = μ17 31 := by rw [e31, s2_comp _ _ _ _ (by decide), e30, s2_comp _ _ _ _ (by decide)]
        have kl : lst μ31 v (lo :: q) := by
          refine ⟨fun i hi => ?_, fun x hx => ?_, fun a ha => ?_⟩
          · rw [List.length_cons] at hi
            rw [k31]
            by_cases e : i = q.length
            · subst e; rw [g31, rev_top]
            · rw [gl.1 i (by omega), rev_get lo q (by omega)]
          · rcases List.mem_cons.mp hx with e | e
            · omega
            · exact gl.2.1 x e
          · obtain ⟨m1, m2⟩ := gl.2.2 a ha
            rw [cnt_cons, e31, s2_comp _ _ _ _ (by decide), e30]
            by_cases e : lo = a
            · subst e
              rw [if_pos rfl, s2_same]
              refine ⟨?_, by omega⟩
              rw [show (1 : Int32) = nI 1 from rfl, pk_sub (by omega), show v lo - q.count lo - 1 = v lo - (q.count lo + 1) by omega]
            · rw [if_neg e, s2_ne _ _ _ _ (Or.inr (fun h => e h.symm))]
              exact ⟨m1, m2⟩
        rw [k32, k33]
        refine pk_le L (q.length + 1) (fun hq => ?_) (fun hq => ?_)
        · have hq2 : q.length + 1 = L := by omega
          have hmp := ms_pos L q (lo + 1)
          obtain ⟨n2, rfl⟩ : ∃ n2, n = n2 + 1 := ⟨n - 1, by omega⟩
          rw [wp_Model_nextUse_78, k32, k33]
          have hfin : wp_Model_nextUse_281 N post μ31 := by
            unfold wp_Model_nextUse_281
            rw [k32, k33, hq2]
            refine ⟨fun h => absurd rfl h, fun _ => ?_⟩
            exact h1 lo q (rst_last O v L q hlo hcond hq2) μ31 f31 ⟨k33, by rw [k32, hq2], by rw [List.length_cons]; exact hq2, kl⟩
          exact ⟨fun _ => hfin, fun _ => pk_le L (q.length + 1) (fun _ => hfin) (fun h => by omega)⟩
        · have e := rst_push O v L q hlo hcond (by omega)
          have hms2 : ms L (lo :: q) (if O 0 = 2 then 0 else lo) < n := by
            unfold ms
            obtain ⟨k, hk⟩ : ∃ k, L - q.length - 1 = k + 1 := ⟨L - q.length - 2, by omega⟩
            have hT : Tm (L - q.length - 1) = 12 * (1 + Tm k) + 1 := by rw [hk]; rfl
            have hk2 : L - (q.length + 1) - 1 = k := by omega
            rw [hk2]
            have : (12 - (if O 0 = 2 then 0 else lo)) * (1 + Tm k) ≤ 12 * (1 + Tm k) := Nat.mul_le_mul_right _ (by omega)
            omega
          rw [e] at h0
          have go : ∀ μ43 : St, μ43 = s2 μ31 31 (q.length + 1) (nI (if O 0 = 2 then 0 else lo) - 1) → wp_Model_nextUse_78 N post n (nI (6 * bk + o)) μ43 := by
            intro μ43 e43
            refine ih (lo :: q) _ μ43 hms2 (fun d d1 d2 d3 => by rw [e43, s2_comp _ _ _ _ d2]; exact f31 d d1 d2 d3) ⟨?_, ?_, ?_, ⟨fun i hi => ?_, kl.2.1, ?_⟩, ?_, ?_⟩ h0 (fun a r hr => h1 a r (by rw [e]; exact hr))
            · rw [e43, s2_comp _ _ _ _ (by decide)]; exact k33
            · rw [e43, s2_comp _ _ _ _ (by decide), List.length_cons]; exact k32
            · rw [List.length_cons]; omega
            · rw [e43, s2_ne _ _ _ _ (Or.inr (by rw [List.length_cons] at hi; omega))]; exact kl.1 i hi
            · rw [e43, s2_comp _ _ _ _ (by decide)]; exact kl.2.2
            · rw [List.length_cons, e43, s2_same, sub_add1]
            · split <;> omega
          obtain ⟨r2, -⟩ := hK
          rw [nI_clamp (by omega), f31 2 (by decide) (by decide) (by decide), r2]
          have hk0 := hO.1
          have e2 : (2 : Int32) = nI 2 := rfl
          refine ⟨vp_in_nI (by omega) (by decide), fun hk => ?_, fun hk => ?_⟩
          · rw [e2, eqL (by omega) (by decide)] at hk
            rw [subM1, nI_clamp (by omega), k31, g31]
            unfold wp_Model_nextUse_277
            rw [nI_clamp (by omega)]
            refine ⟨vp_in_nI (by omega) (by decide), vp_in_nI (by omega) (by decide), fun μ43 e43 => go μ43 ?_⟩
            rw [if_neg hk]; exact e43
          · rw [e2, eqL (by omega) (by decide)] at hk
            unfold wp_Model_nextUse_277
            rw [nI_clamp (by omega)]
            refine ⟨vp_in_nI (by omega) (by decide), fun μ43 e43 => go μ43 ?_⟩
            rw [if_pos hk]; exact e43
      · rw [if_neg ht]
        exact ⟨fun _ => next (fun h => ht (by rw [List.length_reverse] at h; exact h.2)), fun h => absurd h (by decide)⟩
    · have hlo : lo = 12 := (eqL (by omega) (by decide)).mp heq
      subst hlo
      have f36 : ∀ d, d ≠ 24 → d ≠ 31 → d ≠ 32 → μ36 d = μ0 d := fun d d1 d2 d3 => by rw [e36, s2_comp _ _ _ _ d3]; exact f17 d d1 d2 d3
      cases q with
      | nil =>
        have k32 : μ36 32 0 = nI 0 - 1 := by rw [e36, s2_same]; rfl
        have hm : ms L [] 12 = 1 := by unfold ms; omega
        rw [k32]
        refine ⟨fun _ => ?_, fun h => absurd m1_lt h⟩
        obtain ⟨n2, rfl⟩ : ∃ n2, n = n2 + 1 := ⟨n - 1, by omega⟩
        rw [wp_Model_nextUse_78, k32]
        refine ⟨fun _ => ?_, fun h => absurd m1_lt h⟩
        unfold wp_Model_nextUse_281
        have k33 : μ36 33 0 = nI L := by rw [e36, s2_comp _ _ _ _ (by decide)]; exact g33
        rw [k32, k33]
        refine ⟨fun _ => h0 rfl μ36 f36 (fun a ha => ?_), fun h => absurd h (m1_ne (by omega))⟩
        rw [e36, s2_comp _ _ _ _ (by decide), (gl.2.2 a ha).1]
        rfl
      | cons a r =>
        have k32 : μ36 32 0 = nI r.length := by rw [e36, s2_same, List.length_cons, subM1]
        have ha : a < 12 := gl.2.1 a List.mem_cons_self
        have k31 : μ36 31 = μ17 31 := by rw [e36, s2_comp _ _ _ _ (by decide)]
        have k24 : μ36 24 = μ17 24 := by rw [e36, s2_comp _ _ _ _ (by decide)]
        have t31 : μ36 31 r.length = nI a := by rw [k31, gl.1 r.length (by rw [List.length_cons]; omega), rev_top]
        rw [List.length_cons] at cL
        rw [k32, nI_clamp (by omega), t31, nI_clamp (by omega)]
        refine ⟨fun h => absurd h (nI_pos (by omega)), fun _ => ⟨vp_in_nI (by omega) (by decide), vp_in_nI ha (by decide), vp_in_nI ha (by decide), fun μ41 e41 => ?_⟩⟩
        have k41 : μ41 24 = s2 μ17 24 a (μ17 24 a + 1) 24 := by
          rw [e41, k24]
          funext i
          by_cases e : i = a
          · subst e; rw [s2_same, s2_same]
          · rw [s2_ne _ _ _ _ (Or.inr e), s2_ne _ _ _ _ (Or.inr e), k24]
        obtain ⟨p1, p2⟩ := lst_pop gl (w := μ41) (by rw [e41, s2_comp _ _ _ _ (by decide), k31]) k41
        have e := rst_12 O v L a r
        rw [e] at h0
        have hms : ms L (a :: r) 12 = 1 + ms L r (a + 1) := by
          show (12 - 12) * _ + 1 + _ = _
          rw [Nat.sub_self, Nat.zero_mul, Nat.zero_add]
        refine ih r (a + 1) μ41 (by omega) (fun d d1 d2 d3 => by rw [e41, s2_comp _ _ _ _ d1]; exact f36 d d1 d2 d3) ⟨?_, ?_, by omega, p1, p2, by omega⟩ h0 (fun b s hr => h1 b s (by rw [e]; exact hr))
        · rw [e41, s2_comp _ _ _ _ (by decide), e36, s2_comp _ _ _ _ (by decide)]; exact g33
        · rw [e41, s2_comp _ _ _ _ (by decide)]; exact k32
