/-! the reference: the least total of every state -/
theorem mnl_app (g : Us → Nat) : ∀ (l m : List Us) (b : Nat), mnl g (l ++ m) b = mnl g m (mnl g l b) := by
  intro l
  induction l with
  | nil => intro m b; rfl
  | cons u r ih => intro m b; exact ih m _
theorem exL_len {f : Nat → List (List Nat)} {M : Nat} (h : ∀ a, (f a).length ≤ M) : ∀ (n a : Nat), (exL f n a).length ≤ n * M := by
  intro n
  induction n with
  | zero => intro a; exact Nat.zero_le _
  | succ n ih =>
    intro a
    unfold exL
    rw [List.length_append, Nat.succ_mul]
    have h1 := h a
    have h2 := ih (a + 1)
    omega
theorem ext_len (O v : Nat → Nat) : ∀ (k lo : Nat) (pre : List Nat), (ext O v k lo pre).length ≤ 12 ^ k := by
  intro k
  induction k with
  | zero => intro lo pre; exact Nat.le_refl _
  | succ k ih =>
    intro lo pre
    rw [ext_s]
    refine Nat.le_trans (exL_len (M := 12 ^ k) (fun a => ?_) _ _) ?_
    · split
      · exact ih _ _
      · exact Nat.zero_le _
    · rw [Nat.pow_succ, Nat.mul_comm]
      exact Nat.mul_le_mul_left _ (by omega)
/-- the uses of an offer that a state allows -/
def usO (Os : Nat → Nat → Nat) (t : Nat → Nat) (s n : Nat) : List Us := if Os n 4 = 1 ∧ (Os n 3 = 0 ∨ 0 < dg t s (12 + n)) then (ext (Os n) (dg t s) (uLen (Os n)) 0 []).map (fun l => (n, l)) else []
theorem fitV_top {t : Nat → Nat} {s n : Nat} {l : List Nat} : (∀ d, 12 ≤ d → d < 18 → ve t (n, l) d ≤ dg t s d) ↔ (n < 6 → 0 < t (12 + n) → 0 < dg t s (12 + n)) := by
  constructor
  · intro h hn h0
    have h1 := h (12 + n) (by omega) (by omega)
    unfold ve at h1
    rw [if_neg (by omega), if_pos ⟨rfl, h0⟩] at h1
    exact h1
  · intro h d h12 h18
    unfold ve
    rw [if_neg (by omega)]
    by_cases h2 : d = 12 + n ∧ 0 < t d
    · have h3 : d = 12 + (n, l).1 ∧ 0 < t d := h2
      rw [if_pos h3]
      obtain ⟨e, h0⟩ := h2
      subst e
      exact h (by omega) h0
    · have h3 : ¬ (d = 12 + (n, l).1 ∧ 0 < t d) := h2
      rw [if_neg h3]; exact Nat.zero_le _
theorem fitV_split {t : Nat → Nat} {s n : Nat} {l : List Nat} (hn : n < 6) : fitV t s (n, l) = (fitC (dg t s) l && decide (0 < t (12 + n) → 0 < dg t s (12 + n))) := by
  refine Bool.eq_iff_iff.mpr ?_
  rw [Bool.and_eq_true, decide_eq_true_iff, fitV_iff, fitC_iff]
  have hve : ∀ d, d < 12 → ve t (n, l) d = l.count d := fun d hd => by unfold ve; rw [if_pos hd]
  constructor
  · intro h
    refine ⟨fun a ha => ?_, fun h0 => (fitV_top (l := l)).mp (fun d _ hd => h d hd) hn h0⟩
    have := h a (by omega)
    rw [hve a ha] at this; exact this
  · rintro ⟨h1, h2⟩ d hd
    by_cases h12 : d < 12
    · rw [hve d h12]; exact h1 d h12
    · exact (fitV_top (l := l)).mpr (fun _ => h2) d (by omega) hd
theorem allU_fil {Os : Nat → Nat → Nat} {t : Nat → Nat} {s : Nat} (hO : ∀ i, i < 6 → okO (Os i)) (ht : ∀ o, o < 6 → Os o 4 = 1 → t (12 + o) = Os o 3 ∨ ∀ a, a < 12 → t a = 0) {n : Nat} (hn : n < 6) : (allU Os t (n + 1)).filter (fitV t s) = (allU Os t n).filter (fitV t s) ++ usO Os t s n := by
  show (allU Os t n ++ _).filter (fitV t s) = _
  rw [List.filter_append]
  congr 1
  unfold usO
  have hu := uLen_le (hO n hn)
  by_cases h4 : Os n 4 = 1
  · rw [if_pos h4, List.filter_map]
    have e1 : List.filter (fitV t s ∘ fun l => (n, l)) (ext (Os n) t (uLen (Os n)) 0 []) = List.filter (fun l => fitC (dg t s) l && decide (0 < t (12 + n) → 0 < dg t s (12 + n))) (ext (Os n) t (uLen (Os n)) 0 []) := List.filter_congr (fun l _ => fitV_split hn)
    rw [e1]
    have hx := ext_filter (O := Os n) (t := t) (v := dg t s) (fun a _ => dg_le t s a) (uLen (Os n)) 0 [] (fun a _ => by rw [List.count_nil]; exact Nat.zero_le _)
    rcases ht n hn h4 with h3 | h0
    · by_cases hr : Os n 3 = 0 ∨ 0 < dg t s (12 + n)
      · rw [if_pos ⟨h4, hr⟩, hx]
        congr 1
        refine List.filter_congr (fun l _ => ?_)
        rw [decide_eq_true (show 0 < t (12 + n) → 0 < dg t s (12 + n) by omega), Bool.and_true]
      · rw [if_neg (fun h => hr h.2)]
        have e2 : List.filter (fun l => fitC (dg t s) l && decide (0 < t (12 + n) → 0 < dg t s (12 + n))) (ext (Os n) t (uLen (Os n)) 0 []) = [] := List.filter_eq_nil_iff.mpr (fun l _ h => by
          rw [Bool.and_eq_true, decide_eq_true_iff] at h
          omega)
        rw [e2]; rfl
    · obtain ⟨k, hk⟩ : ∃ k, uLen (Os n) = k + 1 := ⟨uLen (Os n) - 1, by omega⟩
      rw [hk, ext_zero h0, ext_zero (t := dg t s) (fun a ha => by have := dg_le t s a; rw [h0 a ha] at this; omega)]
      split <;> rfl
  · rw [if_neg h4, if_neg (fun h => h4 h.1)]; rfl
theorem uC_le {Os : Nat → Nat → Nat} {C : Nat → Nat} {u : Us} (hO : okO (Os u.1)) (hP : uP C u ≤ 400000) : uC Os C u ≤ 500000 := by
  have h1 := hO.2.2.2.1
  have h2 := lowP_le C (fun a => u.2.count a) 12
  have h3 : lowP C (fun a => u.2.count a) 12 * (if Os u.1 2 < 100 then Os u.1 2 else 100) ≤ lowP C (fun a => u.2.count a) 12 * 100 := Nat.mul_le_mul_left _ (by split <;> omega)
  unfold uC uCost
  split
  · omega
  · split
    · omega
    · omega
theorem uP_le {C : Nat → Nat} {u : Us} (hC : ∀ a, a < 12 → C a ≤ 100000) (hx : ∀ x ∈ u.2, x < 12) (hl : u.2.length ≤ 4) : uP C u ≤ 400000 := by
  have h := pr_le (c := fun a => u.2.count a) hC 12 (by omega)
  rw [sm_count u.2 hx] at h
  show pr C (fun a => u.2.count a) 12 ≤ _
  omega
theorem LT_le {Os : Nat → Nat → Nat} {C t : Nat → Nat} (hO : ∀ i, i < 6 → okO (Os i)) (hC : ∀ a, a < 12 → C a ≤ 100000) (hsm : sm t 12 ≤ 10) {s : Nat} (hs : s < str t 18) : LT Os C t s ≤ 1000000 := by
  have h1 := SV_LT (C := C) hO hs
  have h2 := pr_le (c := dg t s) hC 12 (Nat.le_refl _)
  have h3 := sm_le (e := dg t s) (f := t) 12 (fun d _ => dg_le t s d)
  omega
theorem tN_sm (Os : Nat → Nat → Nat) (b : Nat → Nat) {z : Nat} (hz : z ≤ 10) : sm (tN Os b z) 12 ≤ 10 := by
  by_cases h : z = 0
  · subst h
    have e : sm (tN Os b 0) 12 = sm (fun _ => 0) 12 := sm_congr 12 (fun d _ => if_pos rfl)
    rw [e, sm_zero]; exact Nat.zero_le _
  · have e : sm (tN Os b z) 12 = sm (tp Os (nB b) z) 12 := sm_congr 12 (fun d _ => if_neg h)
    rw [e]
    have := tp_sm Os (nB b) z
    omega
theorem tN_top (Os : Nat → Nat → Nat) (b : Nat → Nat) (z : Nat) : ∀ o, o < 6 → Os o 4 = 1 → tN Os b z (12 + o) = Os o 3 ∨ ∀ a, a < 12 → tN Os b z a = 0 := by
  intro o _ h4
  by_cases h : z = 0
  · subst h; exact Or.inr (fun a _ => if_pos rfl)
  · left; rw [tN_hi, if_pos ⟨by omega, h4⟩]
theorem dg_100 {t : Nat → Nat} (hsm : sm t 12 ≤ 10) (s : Nat) : ∀ a, a < 12 → dg t s a < 100 := by
  intro a ha
  have h1 := dg_le t s a
  have h2 : ∀ n, a < n → t a ≤ sm t n := by
    intro n
    induction n with
    | zero => intro h; omega
    | succ n ih =>
      intro h
      rw [sm_s]
      by_cases e : a = n
      · subst e; omega
      · have := ih (by omega); omega
  have := h2 12 ha
  omega
theorem tN_5 {Os : Nat → Nat → Nat} {b : Nat → Nat} {z : Nat} (hO : ∀ i, i < 6 → okO (Os i)) {o : Nat} (ho : o < 6) : tN Os b z (12 + o) ≤ 5 := by
  rw [tN_hi]
  have := (hO o ho).2.2.2.2.1
  split <;> omega
/-- what a list of the cursor is like at a state -/
theorem use_ok {Os : Nat → Nat → Nat} {C b : Nat → Nat} {z s o : Nat} {μ : St} {bk : Nat} (hR : repR μ bk Os C b z) (ho : o < 6) (hs : s < str (tN Os b z) 18) {l : List Nat} (hl : (o, l) ∈ usO Os (tN Os b z) s o) :
    (o, l) ∈ allU Os (tN Os b z) 6 ∧ (∀ d, d < 18 → ve (tN Os b z) (o, l) d ≤ dg (tN Os b z) s d) ∧ stp (tN Os b z) (o, l) ≤ s ∧ 0 < stp (tN Os b z) (o, l) ∧ 0 < l.length ∧ l.length ≤ 4 ∧ (∀ x ∈ l, μ 28 x = nI (C x)) ∧ (∀ x ∈ l, μ 26 x = nI (str (tN Os b z) x)) := by
  have hO : ∀ i, i < 6 → okO (Os i) := fun i hi => (hR.1.1.2.2 i hi).2.2.2.2.2.2
  have h1 : (o, l) ∈ (allU Os (tN Os b z) (o + 1)).filter (fitV (tN Os b z) s) := by
    rw [allU_fil hO (tN_top Os b z) ho]; exact List.mem_append.mpr (Or.inr hl)
  obtain ⟨h2, h3⟩ := List.mem_filter.mp h1
  have h4 : (o, l) ∈ allU Os (tN Os b z) 6 := (allU_mem 6).mpr ⟨ho, ((allU_mem _).mp h2).2⟩
  have h5 := fitV_iff.mp h3
  obtain ⟨a1, a2, a3, a4, a5, a6⟩ := allU_el hO h4
  have hpos : ∀ x ∈ l, 0 < tN Os b z x := fun x hx => by
    have h7 : l.count x ≤ tN Os b z x := a6 x
    have h8 := List.count_pos_iff.mpr hx
    omega
  refine ⟨h4, h5, (dg_sub hs h5).1, stp_pos hO h4, Nat.lt_of_lt_of_le (by decide) a3, a4, fun x hx => hR.2.2.2.2 x (a5 x hx) (hpos x hx), fun x hx => ?_⟩
  rw [hR.2.1 x (a5 x hx)]
  unfold pl
  rw [if_pos (hpos x hx)]
theorem pf_reckonAll (N : Nat) (hN : 100001 ≤ N) {μ0 : St} {bk : Nat} {Os : Nat → Nat → Nat} {C b : Nat → Nat} {z : Nat} (hX : repX μ0 bk Os C b z) (hC : ∀ a, a < 12 → C a ≤ 100000) (h3000 : str (tN Os b z) 18 ≤ 3000) (post : St → Prop)
    (hp : ∀ u : St, (∀ d, d < 24 ∨ 33 < d → u d = μ0 d) → repR u bk Os C b z → (∀ x, x < str (tN Os b z) 18 → u 30 x = nI (LT Os C (tN Os b z) x)) → post u) : wp_Model_reckonAll N μ0 post := by
  have hz := hX.2.2.1
  have hO : ∀ i, i < 6 → okO (Os i) := fun i hi => (hX.1.2.2 i hi).2.2.2.2.2.2
  have hsm := tN_sm Os b hz
  have htop := tN_top Os b z
  have hbk := hX.1.1
  unfold wp_Model_reckonAll
  refine pf_numberAll N (by omega) hX _ (fun μ1 f1 hR1 => ?_)
  have f1' : ∀ d, d < 24 ∨ 33 < d → μ1 d = μ0 d := fun d hd => f1 d (by omega) (by omega) (by omega) (by omega) (by omega)
  have loopS : ∀ (n s : Nat) (μ : St), s ≤ str (tN Os b z) 18 → str (tN Os b z) 18 - s < n → (∀ d, d < 24 ∨ 33 < d → μ d = μ0 d) → repR μ bk Os C b z → (∀ x, x < s → μ 30 x = nI (LT Os C (tN Os b z) x)) → wp_Model_reckonAll_6 N post n (nI s) μ := by
    intro n
    induction n with
    | zero => intro s μ _ h; omega
    | succ n ih =>
      intro s μ hs hn hf hR h30
      rw [wp_Model_reckonAll_6, hR.2.2.2.1]
      refine pk_le (str (tN Os b z) 18) s (fun hq => hp μ hf hR (fun x hx => h30 x (by omega))) (fun hq => ?_)
      refine pf_unfold N (by omega) hR h3000 (by omega) _ (fun u4 f4 u24 u25 => ?_)
      have hd100 := dg_100 hsm s
      have hd5 : ∀ o, o < 6 → dg (tN Os b z) s (12 + o) < 100 := fun o ho => by
        have := dg_le (tN Os b z) s (12 + o)
        have := tN_5 (b := b) (z := z) hO ho
        omega
      have hR4 : repR u4 bk Os C b z := repR_same (fun d hd => f4 d (by omega) (by omega)) hR
      have goodS : ∀ (u : Us), u ∈ (allU Os (tN Os b z) 6).filter (fitV (tN Os b z) s) → True := fun _ _ => trivial
      -- the loop over the offers
      have loopO : ∀ (m o : Nat) (w : St), o ≤ 6 → 6 - o < m → (∀ d, d ≠ 24 → d ≠ 31 → d ≠ 32 → d ≠ 33 → w d = u4 d) → (∀ a, a < 12 → w 24 a = nI (dg (tN Os b z) s a)) → wp_Model_reckonAll_53 N post (wp_Model_reckonAll_6 N post n) m (nI s) (nI (mnl (fun u => uC Os C u + LT Os C (tN Os b z) (s - stp (tN Os b z) u)) ((allU Os (tN Os b z) o).filter (fitV (tN Os b z) s)) (pr C (dg (tN Os b z) s) 12))) (nI o) w := by
        intro m
        induction m with
        | zero => intro o w _ h; omega
        | succ m ihm =>
          intro o w ho hm wf w24
          have hRw : repR w bk Os C b z := repR_same (fun d hd => wf d (by omega) (by omega) (by omega) (by omega)) hR4
          rw [wp_Model_reckonAll_53]
          refine pk_le 6 o (fun hq2 => ?_) (fun hq2 => ?_)
          · have : o = 6 := by omega
            subst this
            refine ⟨vp_in_nI (by omega) (by decide), fun μ11 e11 => ?_⟩
            rw [nI_clamp (by omega)] at e11
            rw [nI_1]
            refine ih (s + 1) μ11 (by omega) (by omega) (fun d hd => ?_) (repR_same (fun d hd => ?_) hRw) (fun x hx => ?_)
            · rw [e11, s2_comp _ _ _ _ (by omega), wf d (by omega) (by omega) (by omega) (by omega), f4 d (by omega) (by omega)]; exact hf d hd
            · rw [e11, s2_comp _ _ _ _ (by omega)]
            · by_cases e : x = s
              · subst e
                rw [e11, s2_same, LT_eq hO hq]; rfl
              · rw [e11, s2_ne _ _ _ _ (Or.inr e), wf 30 (by decide) (by decide) (by decide) (by decide), f4 30 (by decide) (by decide)]; exact h30 x (by omega)
          · have ho2 : o < 6 := by omega
            rw [hRw.1.1.2.1, six]
            refine pf_beginUses N hRw.1.1 ho2 (v := dg (tN Os b z) s) w24 _ (fun u12 f12 hc12 => ?_)
            -- the loop over the uses
            have loopU : ∀ (k : Nat) (ρ : List (List Nat)) (best : Nat) (x : St), ρ.length < k → best ≤ 1000000 → (∀ l ∈ ρ, (o, l) ∈ usO Os (tN Os b z) s o) → (∀ d, d ≠ 24 → d ≠ 31 → d ≠ 32 → d ≠ 33 → x d = u4 d) → curS (Os o) x (dg (tN Os b z) s) (uLen (Os o)) ρ → runs1 (Os o) (dg (tN Os b z) s (12 + o)) → (∀ y : St, (∀ d, d ≠ 24 → d ≠ 31 → d ≠ 32 → d ≠ 33 → y d = u4 d) → (∀ a, a < 12 → y 24 a = nI (dg (tN Os b z) s a)) → wp_Model_reckonAll_53 N post (wp_Model_reckonAll_6 N post n) m (nI s) (nI (mnl (fun u => uC Os C u + LT Os C (tN Os b z) (s - stp (tN Os b z) u)) (ρ.map (fun l => (o, l))) best)) (nI (o + 1)) y) → wp_Model_reckonAll_72 N post (wp_Model_reckonAll_53 N post (wp_Model_reckonAll_6 N post n) m) k (nI s) (nI best) (nI o) x := by
              intro k
              induction k with
              | zero => intro ρ best x h; omega
              | succ k ihk =>
                intro ρ best x hk hb hρ xf hc hr hdone
                have hRx : repR x bk Os C b z := repR_same (fun d hd => xf d (by omega) (by omega) (by omega) (by omega)) hR4
                rw [wp_Model_reckonAll_72]
                refine pf_nextUse_go N hN hRx.1.1 ho2 (hd5 o ho2) (by rw [xf 25 (by decide) (by decide) (by decide) (by decide)]; exact u25 o ho2) hr hd100 hc _ (fun e y fy y24 => ⟨fun _ => ?_, fun h => absurd rfl h⟩) (fun l ρ2 e y fy hc2 hl hlL => ⟨fun h => absurd h (by decide), fun _ => ?_⟩)
                · subst e
                  rw [nI_1]
                  exact hdone y (fun d d1 d2 d3 d4 => by rw [fy d d1 d2 d3]; exact xf d d1 d2 d3 d4) y24
                · subst e
                  have yf : ∀ d, d ≠ 24 → d ≠ 31 → d ≠ 32 → d ≠ 33 → y d = u4 d := fun d d1 d2 d3 d4 => by rw [fy d d1 d2 d3]; exact xf d d1 d2 d3 d4
                  have hRy : repR y bk Os C b z := repR_same (fun d hd => yf d (by omega) (by omega) (by omega) (by omega)) hR4
                  obtain ⟨q1, q2, q3, q4, q5, q6, q7, q8⟩ := use_ok hRy ho2 hq (hρ l List.mem_cons_self)
                  have hul := allU_el hO q1
                  refine pf_behindUse N (by omega) ho2 hl q6 q8 (hRy.2.2.1 o ho2) q3 _ ?_
                  rw [hRy.1.1.2.1, six]
                  refine pf_costOfUse N (by omega) hRy.1.1 ho2 hl q5 q6 q7 hC _ ?_
                  have hy30 : y 30 (s - stp (tN Os b z) (o, l)) = nI (LT Os C (tN Os b z) (s - stp (tN Os b z) (o, l))) := by
                    rw [yf 30 (by decide) (by decide) (by decide) (by decide), f4 30 (by decide) (by decide)]; exact h30 _ (by omega)
                  have hLl := LT_le (C := C) hO hC hsm (show s - stp (tN Os b z) (o, l) < str (tN Os b z) 18 by omega)
                  have hUl := uC_le (Os := Os) (C := C) (u := (o, l)) (hO o ho2) (uP_le hC hul.2.2.2.2.1 q6)
                  unfold wp_Model_alone
                  rw [nI_clamp (by omega), hy30]
                  refine pk_le s (s - stp (tN Os b z) (o, l)) (fun h => by omega) (fun _ => ⟨vp_in_nI (by omega) (by decide), ?_⟩)
                  dsimp only
                  rw [nI_add]
                  unfold wp_Model_reckonAll_120
                  refine pk_le best (uC Os C (o, l) + LT Os C (tN Os b z) (s - stp (tN Os b z) (o, l))) (fun h => ?_) (fun h => ?_)
                  · refine ihk ρ2 best y (by rw [List.length_cons] at hk; omega) hb (fun m hm => hρ m (List.mem_cons_of_mem _ hm)) yf hc2 hr (fun y2 g1 g2 => ?_)
                    have := hdone y2 g1 g2
                    rw [List.map_cons] at this
                    unfold mnl at this
                    rw [if_neg (by omega)] at this
                    exact this
                  · refine ihk ρ2 _ y (by rw [List.length_cons] at hk; omega) (by omega) (fun m hm => hρ m (List.mem_cons_of_mem _ hm)) yf hc2 hr (fun y2 g1 g2 => ?_)
                    have := hdone y2 g1 g2
                    rw [List.map_cons] at this
                    unfold mnl at this
                    rw [if_pos h] at this
                    exact this
            have hmb : mnl (fun u => uC Os C u + LT Os C (tN Os b z) (s - stp (tN Os b z) u)) ((allU Os (tN Os b z) o).filter (fitV (tN Os b z) s)) (pr C (dg (tN Os b z) s) 12) ≤ 1000000 := by
              have h1 := mnl_le (fun u => uC Os C u + LT Os C (tN Os b z) (s - stp (tN Os b z) u)) ((allU Os (tN Os b z) o).filter (fitV (tN Os b z) s)) (pr C (dg (tN Os b z) s) 12)
              have h2 := pr_le (c := dg (tN Os b z) s) hC 12 (Nat.le_refl _)
              have h3 := sm_le (e := dg (tN Os b z) s) (f := tN Os b z) 12 (fun d _ => dg_le (tN Os b z) s d)
              omega
            have x12 : ∀ d, d ≠ 24 → d ≠ 31 → d ≠ 32 → d ≠ 33 → u12 d = u4 d := fun d d1 d2 d3 d4 => by rw [f12 d d2 d3 d4]; exact wf d d1 d2 d3 d4
            by_cases hr : runs1 (Os o) (dg (tN Os b z) s (12 + o))
            · have hus : usO Os (tN Os b z) s o = (ext (Os o) (dg (tN Os b z) s) (uLen (Os o)) 0 []).map (fun l => (o, l)) := if_pos hr
              have hel := ext_len (Os o) (dg (tN Os b z) s) (uLen (Os o)) 0 []
              have hul := uLen_le (hO o ho2)
              have hpw : 12 ^ uLen (Os o) ≤ 12 ^ 4 := Nat.pow_le_pow_right (by decide) hul.2
              have h124 : (12 ^ 4 : Nat) = 20736 := by decide
              refine loopU N _ _ u12 (by omega) hmb (fun l hl => by rw [hus]; exact List.mem_map.mpr ⟨l, hl, rfl⟩) x12 hc12 hr (fun y yf y24 => ?_)
              rw [← hus, ← mnl_app, ← allU_fil hO htop ho2]
              exact ihm (o + 1) y (by omega) (by omega) yf y24
            · obtain ⟨k, rfl⟩ : ∃ k, N = k + 1 := ⟨N - 1, by omega⟩
              have hus : usO Os (tN Os b z) s o = [] := if_neg hr
              have hR12 : repR u12 bk Os C b z := repR_same (fun d hd => x12 d (by omega) (by omega) (by omega) (by omega)) hR4
              rw [wp_Model_reckonAll_72]
              refine pf_nextUse_no (k + 1) hR12.1.1 ho2 (hd5 o ho2) (by rw [x12 25 (by decide) (by decide) (by decide) (by decide)]; exact u25 o ho2) hr _ ⟨fun _ => ?_, fun h => absurd rfl h⟩
              have e := allU_fil (s := s) hO htop ho2
              rw [hus, List.append_nil] at e
              rw [nI_1, ← e]
              refine ihm (o + 1) u12 (by omega) (by omega) x12 (fun a ha => ?_)
              rw [f12 24 (by decide) (by decide) (by decide)]; exact w24 a ha
      -- the sum over the articles
      have loopA : ∀ (m a : Nat), a ≤ 12 → 12 - a < m → wp_Model_reckonAll_23 N post (wp_Model_reckonAll_6 N post n) m (nI s) (nI (pr C (dg (tN Os b z) s) a)) (nI a) u4 := by
        intro m
        induction m with
        | zero => intro a _ h; omega
        | succ m ihm =>
          intro a ha hm
          rw [wp_Model_reckonAll_23]
          refine pk_le 12 a (fun hq2 => ?_) (fun hq2 => ?_)
          · have : a = 12 := by omega
            subst this
            exact loopO N 0 u4 (by omega) (by omega) (fun _ _ _ _ _ => rfl) u24
          · have ha2 : a < 12 := by omega
            rw [nI_clamp (by omega), u24 a ha2]
            have e : nI (dg (tN Os b z) s a) * u4 28 a = nI (dg (tN Os b z) s a * C a) := by
              by_cases h0 : dg (tN Os b z) s a = 0
              · rw [h0, Nat.zero_mul]
                exact Int32.zero_mul
              · have := dg_le (tN Os b z) s a
                rw [hR4.2.2.2.2 a ha2 (by omega), pk_mul]
            rw [e, nI_add, nI_1]
            exact ⟨vp_in_nI ha2 (by decide), vp_in_nI ha2 (by decide), ihm (a + 1) (by omega) (by omega)⟩
      exact loopA N 0 (by omega) (by omega)
  exact loopS N 0 μ1 (by omega) (by omega) f1' hR1 (fun x hx => by omega)
