/-! keep -/
theorem lowP_le (C c : Nat → Nat) : ∀ n, lowP C c n ≤ 100000 := by
  intro n
  induction n with
  | zero => exact Nat.le_refl _
  | succ n ih => unfold lowP; split <;> (try split) <;> omega
theorem lowP_pr {C c : Nat → Nat} {a : Nat} (hc : 0 < c a) : ∀ n, a < n → lowP C c n ≤ pr C c n := by
  intro n
  induction n with
  | zero => intro h; omega
  | succ n ih =>
    intro h
    rw [pr_s]
    unfold lowP
    by_cases h0 : 0 < c n
    · rw [if_pos h0]
      have : 1 * C n ≤ c n * C n := Nat.mul_le_mul_right _ h0
      split <;> omega
    · rw [if_neg h0]
      have : a ≠ n := fun e => by subst e; exact h0 hc
      have := ih (by omega)
      omega
theorem pr_le {C c : Nat → Nat} (hC : ∀ a, a < 12 → C a ≤ 100000) : ∀ n, n ≤ 12 → pr C c n ≤ sm c n * 100000 := by
  intro n
  induction n with
  | zero => intro _; exact Nat.zero_le _
  | succ n ih =>
    intro h
    rw [pr_s, sm_s, Nat.add_mul]
    have h1 := ih (by omega)
    have h2 : c n * C n ≤ c n * 100000 := Nat.mul_le_mul_left _ (hC n (by omega))
    omega
theorem enc_top {t : Nat → Nat} {e : Nat → Nat} (o : Nat) : ∀ n, encN t (fun d => if d < 12 then e d else if d = 12 + o ∧ 0 < t d then 1 else 0) (12 + n) = encN t e 12 + (if o < n ∧ 0 < t (12 + o) then str t (12 + o) else 0) := by
  intro n
  induction n with
  | zero =>
    rw [if_neg (by omega), Nat.add_zero, Nat.add_zero]
    exact encN_congr 12 (fun d hd => by rw [if_pos hd])
  | succ n ih =>
    have h12 : ¬ 12 + n < 12 := by omega
    rw [← Nat.add_assoc, encN_s, ih, if_neg h12]
    by_cases h : n = o
    · subst h
      rw [if_neg (by omega)]
      by_cases h2 : 0 < t (12 + n)
      · rw [if_pos ⟨rfl, h2⟩, if_pos ⟨by omega, h2⟩]; omega
      · rw [if_neg (fun q => h2 q.2), if_neg (fun q => h2 q.2)]; omega
    · have hno : ¬ (12 + n = 12 + o ∧ 0 < t (12 + n)) := fun q => h (by omega)
      rw [if_neg hno]
      by_cases h2 : o < n ∧ 0 < t (12 + o)
      · rw [if_pos h2, if_pos ⟨by omega, h2.2⟩]; omega
      · rw [if_neg h2, if_neg (fun q => h2 ⟨by omega, q.2⟩)]; omega
theorem stp_eq {t : Nat → Nat} {o : Nat} {l : List Nat} (ho : o < 6) : stp t (o, l) = cdU t l + (if 0 < t (12 + o) then str t (12 + o) else 0) := by
  have h := enc_top (t := t) (e := fun a => l.count a) o 6
  show encN t (ve t (o, l)) 18 = encN t (fun a => l.count a) 12 + _
  rw [show encN t (ve t (o, l)) 18 = encN t (fun d => if d < 12 then (fun a => l.count a) d else if d = 12 + o ∧ 0 < t d then 1 else 0) (12 + 6) from rfl, h]
  by_cases h2 : 0 < t (12 + o)
  · rw [if_pos ⟨ho, h2⟩, if_pos h2]
  · rw [if_neg (fun q => h2 q.2), if_neg h2]
theorem pkd_15 {o len a0 a1 a2 a3 : Nat} (ho : o < 6) (hl : len ≤ 4) (h0 : a0 < 12) (h1 : a1 < 12) (h2 : a2 < 12) (h3 : a3 < 12) : nI (pkd o len a0 a1 a2 a3) &&& 15 = nI a0 := by
  rw [pk_andN (by unfold pkd; omega) 4 (by decide), show pkd o len a0 a1 a2 a3 % 2 ^ 4 = a0 by unfold pkd; omega]
/-- what a use is asked for in keep -/
def okL (Os : Nat → Nat → Nat) (C t : Nat → Nat) (o : Nat) (l : List Nat) : Prop := o < 6 ∧ (∀ a, a < 12 → C a ≤ 100000) ∧ sm t 12 ≤ 10 ∧ str t 18 ≤ 3000 ∧ t (12 + o) = Os o 3 ∧ l.length ≤ 4 ∧ 0 < l.length ∧ (∀ x ∈ l, x < 12) ∧ ∀ a, l.count a ≤ t a
theorem ve_le {t : Nat → Nat} {u : Us} (hc : ∀ a, u.2.count a ≤ t a) : ∀ d, ve t u d ≤ t d := by
  intro d
  unfold ve
  split
  · exact hc d
  · split
    · rename_i h; omega
    · exact Nat.zero_le _
theorem pf_keep (N : Nat) (hN : 13 ≤ N) {υ τ ω ϕ : St} {Os : Nat → Nat → Nat} {C t : Nat → Nat} {o : Nat} {l : List Nat} (ok : okL Os C t o l) (hO : repO ω (Os o)) (hτ : ∀ a, a < 12 → τ 0 a = nI (C a)) (hϕ : ∀ d, d < 18 → ϕ 0 d = nI (str t d)) (h6 : ∀ a, a < 12 → υ 6 a = nI (l.count a)) {K : List Us} {M : List Nat} {st : Nat} (hK : repC Os C t υ K) (hM : repD υ M st) (hz : ¬ cdU t l ∈ M → K.length < 1260) (post : St → Prop)
    (hp : ∀ u, u 6 = υ 6 → repC Os C t u (kp1 Os C t o (K, M) l).1 → repD u (kp1 Os C t o (K, M) l).2 st → post u) : wp_Uses_keep N υ τ ω ϕ (nI o) post := by
  obtain ⟨ho, hC, hsm, hR, ht, hl, hl1, hx, hc⟩ := ok
  have hcn : sm (fun a => l.count a) 12 = l.length := sm_count l hx
  have hlen : (srt (fun a => l.count a) 12).length = l.length := by rw [srt_len, hcn]
  have hP : pr C (fun a => l.count a) 12 ≤ 400000 := by
    have := pr_le (c := fun a => l.count a) hC 12 (by omega)
    rw [hcn] at this; omega
  have hcd : cdU t l < str t 12 := encN_lt 12 (fun d hd => hc d)
  have h1024 := str_1024 hsm
  have hlow : lowP C (fun a => l.count a) 12 ≤ pr C (fun a => l.count a) 12 := by
    cases hl0 : l with
    | nil => rw [hl0] at hl1; simp at hl1
    | cons b r => exact lowP_pr (a := b) (List.count_pos_iff.mpr List.mem_cons_self) 12 (hx b (by rw [hl0]; exact List.mem_cons_self))
  have hst : stp t (o, l) < 1000000 := by
    have : stp t (o, l) < str t 18 := encN_lt 18 (fun d _ => ve_le (u := (o, l)) hc d)
    omega
  have fin : wp_Offer_savingOn N ω (nI (pr C (fun a => l.count a) 12)) (nI (lowP C (fun a => l.count a) 12)) (fun r4 u3 => ((r4 ≤ 0 → post υ) ∧ (¬ (r4 ≤ 0) → wp_Uses_isNew N υ (nI (cdU t l)) (fun r7 u6 => ((r7 = 0 → post u6) ∧ (¬ (r7 = 0) → ((1260 ≤ (u6 9 0) → post u6) ∧ (¬ (1260 ≤ (u6 9 0)) → (vp_in (nI o) 6 ∧ (((ω 3 0) ≤ 0 → (wp_Uses_keep_143 N τ ω ϕ (nI o) post (nI (cdU t l)) r4 0 u6)) ∧ (¬ ((ω 3 0) ≤ 0) → (wp_Uses_keep_143 N τ ω ϕ (nI o) post (nI (cdU t l)) r4 1 u6)))))))))))) := by
    refine pf_savingOn N hO (by omega) hlow (lowP_le _ _ 12) _ (fun hq r hr => ⟨fun _ => ?_, fun h => absurd hr h⟩) (fun hq => ?_)
    · have e : kp1 Os C t o (K, M) l = (K, M) := if_neg (fun h => by have : uC Os C (o, l) < uP C (o, l) := h.1; exact absurd hq (Nat.not_le.mpr this))
      rw [e] at hp
      exact hp υ rfl hK hM
    · have hlt : uC Os C (o, l) < uP C (o, l) := hq
      refine ⟨fun h => absurd h ?_, fun _ => ?_⟩
      · show ¬ nI (uP C (o, l) - uC Os C (o, l)) ≤ nI 0
        rw [leL (by have : uP C (o, l) ≤ 400000 := hP; omega) (by decide)]; omega
      · obtain ⟨m8, mst, m7⟩ := hM
        obtain ⟨m, e7, hm, hmx⟩ := m7 (cdU t l) (by omega)
        refine pf_isNew N (by omega) _ (fun he => ⟨fun _ => ?_, fun h => absurd rfl h⟩) (fun he => ⟨fun h => absurd h (by decide), fun _ => ?_⟩)
        · rw [e7, m8, eqL (by omega) (by omega)] at he
          have e : kp1 Os C t o (K, M) l = (K, M) := if_neg (fun h => h.2 (hmx.mp he))
          rw [e] at hp
          exact hp υ rfl hK ⟨m8, mst, m7⟩
        · rw [e7, m8] at he
          have hnm : ¬ cdU t l ∈ M := fun h => he (by rw [hmx.mpr h])
          have hzz := hz hnm
          have e : kp1 Os C t o (K, M) l = (K ++ [(o, l)], cdU t l :: M) := if_pos ⟨hlt, hnm⟩
          rw [e] at hp
          have h90 : s2 υ 7 (cdU t l) (υ 8 0) 9 0 = nI K.length := by rw [s2_comp _ _ _ _ (by decide)]; exact hK.1.1
          have tail : ∀ (st2 : Int32) (υ24 : St), st2 = nI (stp t (o, l)) → υ24 = s2 (s2 (s2 υ 7 (cdU t l) (υ 8 0)) 0 K.length (nI (pkd o (srt (fun a => l.count a) 12).length (gA (fun a => l.count a) 0) (gA (fun a => l.count a) 1) (gA (fun a => l.count a) 2) (gA (fun a => l.count a) 3)))) 1 K.length (nI (uP C (o, l) - uC Os C (o, l))) → wp_Uses_keep_197 N τ ω ϕ (nI o) post st2 (υ24 9 0) υ24 := by
            intro st2 υ24 e2 e24
            unfold wp_Uses_keep_197
            have h924 : υ24 9 0 = nI K.length := by rw [e24, s2_comp _ _ _ _ (by decide), s2_comp _ _ _ _ (by decide), h90]
            rw [h924, nI_clamp (by omega)]
            refine ⟨vp_in_nI hzz (by decide), fun υ28 e28 => ?_⟩
            have h928 : υ28 9 0 = nI K.length := by rw [e28, s2_comp _ _ _ _ (by decide), h924]
            have h028 : υ28 0 K.length = nI (pkd o (srt (fun a => l.count a) 12).length (gA (fun a => l.count a) 0) (gA (fun a => l.count a) 1) (gA (fun a => l.count a) 2) (gA (fun a => l.count a) 3)) := by
              rw [e28, s2_comp _ _ _ _ (by decide), e24, s2_comp _ _ _ _ (by decide), s2_same]
            rw [h928, nI_clamp (by omega), h028, pkd_15 ho (by omega) (gA_lt 0) (gA_lt 1) (gA_lt 2) (gA_lt 3)]
            refine ⟨vp_in_nI hzz (by decide), ?_⟩
            have base : ∀ d, d ≠ 0 → d ≠ 1 → d ≠ 2 → d ≠ 7 → υ28 d = υ d := by
              intro d d0 d1 d2 d7
              rw [e28, s2_comp _ _ _ _ d2, e24, s2_comp _ _ _ _ d1, s2_comp _ _ _ _ d0, s2_comp _ _ _ _ d7]
            have b012 : ∀ d, d < 3 → ∀ j, j ≠ K.length → υ28 d j = υ d j := by
              intro d hd j hj
              rw [e28, s2_ne _ _ _ _ (Or.inr hj), e24, s2_ne _ _ _ _ (Or.inr hj), s2_ne _ _ _ _ (Or.inr hj), s2_comp _ _ _ _ (by omega)]
            have b1 : υ28 1 K.length = nI (uP C (o, l) - uC Os C (o, l)) := by rw [e28, s2_comp _ _ _ _ (by decide), e24, s2_same]
            have b2 : υ28 2 K.length = nI (stp t (o, l)) := by rw [e28, s2_same, e2]
            have b7 : υ28 7 = s2 υ 7 (cdU t l) (υ 8 0) 7 := by rw [e28, s2_comp _ _ _ _ (by decide), e24, s2_comp _ _ _ _ (by decide), s2_comp _ _ _ _ (by decide)]
            have hD : ∀ w : St, w 8 = υ28 8 → w 7 = υ28 7 → repD w (cdU t l :: M) st := by
              intro w w8 w7
              refine ⟨by rw [w8, base 8 (by decide) (by decide) (by decide) (by decide)]; exact m8, mst, fun x hx2 => ?_⟩
              rw [w7, b7]
              by_cases ex : x = cdU t l
              · subst ex
                exact ⟨st, by rw [s2_same]; exact m8, Nat.le_refl _, fun _ => List.mem_cons_self, fun _ => rfl⟩
              · obtain ⟨m2, q1, q2, q3⟩ := m7 x hx2
                refine ⟨m2, by rw [s2_ne _ _ _ _ (Or.inr ex)]; exact q1, q2, ?_⟩
                rw [q3, List.mem_cons]
                exact ⟨fun h => Or.inr h, fun h => h.resolve_left ex⟩
            have b5 : υ28 5 = υ 5 := base 5 (by decide) (by decide) (by decide) (by decide)
            have b4 : υ28 4 = υ 4 := base 4 (by decide) (by decide) (by decide) (by decide)
            have b3 : υ28 3 = υ 3 := base 3 (by decide) (by decide) (by decide) (by decide)
            have b6 : υ28 6 = υ 6 := base 6 (by decide) (by decide) (by decide) (by decide)
            have hs1 : uP C (o, l) - uC Os C (o, l) ≤ 1000000 := by have : uP C (o, l) ≤ 400000 := hP; omega
            refine pf_link N (gA_lt 0) hzz h928 _ (fun g0 u gd g5 g4 gb g3 gi => fun υ32 e32 => ?_) (fun j hj g0 u gd g5 g4 gb g3 gj gi => fun υ32 e32 => ?_) ?_
            · have d1 : ∀ d, d ≠ 9 → υ32 d = u d := fun d hd => by rw [e32, s2_comp _ _ _ _ hd]
              refine hp υ32 ?_ ?_ (hD υ32 ?_ ?_)
              · rw [d1 6 (by decide), gd 6 (by decide) (by decide) (by decide), b6]
              · refine repC_snoc hK (o, l) ho (by show (srt (fun a => l.count a) 12).length ≤ 4; omega) hs1 hst hzz ?_ (fun d hd j hj => ?_) ?_ ?_ ?_ ?_ (fun b hb => ?_) ?_ (Or.inl ⟨?_, ?_, fun i hi => ?_⟩)
                · rw [e32, s2_same, gd 9 (by decide) (by decide) (by decide), h928, nI_1]
                · rw [d1 d (by omega), gd d (by omega) (by omega) (by omega), b012 d hd j hj]
                · rw [d1 0 (by decide), gd 0 (by decide) (by decide) (by decide)]; exact h028
                · rw [d1 1 (by decide), gd 1 (by decide) (by decide) (by decide)]; exact b1
                · rw [d1 2 (by decide), gd 2 (by decide) (by decide) (by decide)]; exact b2
                · rw [d1 5 (by decide)]; exact g5
                · rw [d1 5 (by decide), d1 4 (by decide), ← b5, ← b4]; exact gb b hb
                · rw [d1 3 (by decide)]; exact g3
                · rw [← b5]; exact g0
                · rw [d1 4 (by decide)]; exact g4
                · rw [d1 3 (by decide), ← b3]; exact gi i hi
              · rw [d1 8 (by decide), gd 8 (by decide) (by decide) (by decide)]
              · rw [d1 7 (by decide), gd 7 (by decide) (by decide) (by decide)]
            · have d1 : ∀ d, d ≠ 9 → υ32 d = u d := fun d hd => by rw [e32, s2_comp _ _ _ _ hd]
              refine hp υ32 ?_ ?_ (hD υ32 ?_ ?_)
              · rw [d1 6 (by decide), gd 6 (by decide) (by decide) (by decide), b6]
              · refine repC_snoc hK (o, l) ho (by show (srt (fun a => l.count a) 12).length ≤ 4; omega) hs1 hst hzz ?_ (fun d hd j hj => ?_) ?_ ?_ ?_ ?_ (fun b hb => ?_) ?_ (Or.inr ⟨j, hj, ?_, ?_, ?_, fun i hi hi2 => ?_⟩)
                · rw [e32, s2_same, gd 9 (by decide) (by decide) (by decide), h928, nI_1]
                · rw [d1 d (by omega), gd d (by omega) (by omega) (by omega), b012 d hd j hj]
                · rw [d1 0 (by decide), gd 0 (by decide) (by decide) (by decide)]; exact h028
                · rw [d1 1 (by decide), gd 1 (by decide) (by decide) (by decide)]; exact b1
                · rw [d1 2 (by decide), gd 2 (by decide) (by decide) (by decide)]; exact b2
                · rw [d1 5 (by decide)]; exact g5
                · rw [d1 5 (by decide), d1 4 (by decide), ← b5, ← b4]; exact gb b hb
                · rw [d1 3 (by decide)]; exact g3
                · rw [← b5]; exact g0
                · rw [d1 4 (by decide), ← b4]; exact g4
                · rw [d1 3 (by decide)]; exact gj
                · rw [d1 3 (by decide), ← b3]; exact gi i hi hi2
              · rw [d1 8 (by decide), gd 8 (by decide) (by decide) (by decide)]
              · rw [d1 7 (by decide), gd 7 (by decide) (by decide) (by decide)]
            · rw [b5]
              rcases (hK.2 (gA (fun a => l.count a) 0) (gA_lt 0)).2 with ⟨-, q⟩ | ⟨L, j, q1, q2⟩
              · exact Or.inl q
              · exact Or.inr ⟨j, (chK_lt (K := K) (a := gA (fun a => l.count a) 0) (by rw [q1]; exact List.mem_append.mpr (Or.inr List.mem_cons_self))).1, q2⟩
          rw [h90]
          refine pk_le 1260 K.length (fun h => by omega) (fun _ => ⟨vp_in_nI ho (by decide), ?_⟩)
          rw [hO.1 3 (by omega)]
          have hm5 := hO.2.2.2.2.2.2.1
          have mid : ∀ y0 : Int32, ((y0 = 0 ∧ Os o 3 = 0) ∨ (y0 = 1 ∧ 0 < Os o 3)) → wp_Uses_keep_143 N τ ω ϕ (nI o) post (nI (cdU t l)) (nI (uP C (o, l) - uC Os C (o, l))) y0 (s2 υ 7 (cdU t l) (υ 8 0)) := by
            intro y0 hy
            unfold wp_Uses_keep_143
            refine pf_packTaken N hN (c := fun a => l.count a) (fun a ha => by rw [s2_comp _ _ _ _ (by decide)]; exact h6 a ha) (by omega) ho _ ?_
            rw [h90, nI_clamp (by omega)]
            refine ⟨vp_in_nI hzz (by decide), fun υ22 e22 => ?_⟩
            have h922 : υ22 9 0 = nI K.length := by rw [e22, s2_comp _ _ _ _ (by decide), h90]
            rw [h922, nI_clamp (by omega)]
            refine ⟨vp_in_nI hzz (by decide), fun υ24 e24 => ?_⟩
            rw [e22] at e24
            rcases hy with ⟨y1, y2⟩ | ⟨y1, y2⟩
            · subst y1
              refine ⟨fun _ => tail _ υ24 ?_ e24, fun h => absurd rfl h⟩
              rw [stp_eq ho, if_neg (by omega), Nat.add_zero]
            · subst y1
              refine ⟨fun h => absurd h (by decide), fun _ => ?_⟩
              rw [show (12 : Int32) = nI 12 from rfl, nI_add, nI_clamp (by omega), hϕ (12 + o) (by omega), nI_add]
              refine ⟨vp_in_nI (by omega) (by decide), tail _ υ24 ?_ e24⟩
              rw [stp_eq ho, if_pos (by omega)]
          exact pk_le (Os o 3) 0 (fun h => mid 0 (Or.inl ⟨rfl, by omega⟩)) (fun h => mid 1 (Or.inr ⟨rfl, h⟩))
  have loop : ∀ (n i : Nat), i ≤ 12 → 12 - i < n → wp_Uses_keep_13 N τ ω ϕ (nI o) post n (nI (encN t (fun a => l.count a) i)) (nI (pr C (fun a => l.count a) i)) (nI (lowP C (fun a => l.count a) i)) (nI i) υ := by
    intro n
    induction n with
    | zero => intro i _ h; omega
    | succ n ih =>
      intro i hi hn
      rw [wp_Uses_keep_13]
      refine pk_le 12 i (fun hq => ?_) (fun hq => ?_)
      · have : i = 12 := by omega
        subst this
        exact ⟨vp_in_nI ho (by decide), fin⟩
      · have hi2 : i < 12 := by omega
        have nx := ih (i + 1) (by omega) (by omega)
        have hcl : l.count i ≤ 4 := Nat.le_trans List.count_le_length hl
        rw [nI_clamp (by omega), h6 i hi2, hϕ i (by omega), hτ i hi2]
        refine ⟨vp_in_nI hi2 (by decide), pk_le (l.count i) 0 (fun h0 => ?_) (fun h0 => ?_)⟩
        · unfold wp_Uses_keep_81
          rw [nI_1]
          rw [encN_s, pr_s, show l.count i = 0 by omega, Nat.zero_mul, Nat.zero_mul, Nat.add_zero, Nat.add_zero] at nx
          unfold lowP at nx
          rw [if_neg (by omega)] at nx
          exact nx
        · refine ⟨vp_in_nI hi2 (by decide), vp_in_nI (by omega) (by decide), vp_in_nI hi2 (by decide), vp_in_nI hi2 (by decide), vp_in_nI hi2 (by decide), ?_⟩
          unfold wp_Uses_keep_81
          rw [nI_1, pk_mul, pk_mul, nI_add, nI_add]
          rw [encN_s, pr_s] at nx
          unfold lowP at nx
          rw [if_pos h0] at nx
          have hl1 := lowP_le C (fun a => l.count a) i
          have hCi := hC i hi2
          by_cases hlt : C i < lowP C (fun a => l.count a) i
          · rw [if_pos hlt] at nx
            rw [if_pos (nI_lt hlt (by omega))]; exact nx
          · rw [if_neg hlt] at nx
            rw [if_neg (nI_nlt (by omega) (by omega))]; exact nx
  exact loop N 0 (by omega) (by omega)
