/-! collect -/
theorem up_same {α : Type} (f : Nat → α) (k : Nat) (v : α) : va_up f k v k = v := by unfold va_up; rw [if_pos rfl]
theorem up_ne {α : Type} (f : Nat → α) {k j : Nat} (v : α) (h : j ≠ k) : va_up f k v j = f j := by unfold va_up; rw [if_neg h]
def repS (υ : St) (st : Nat) : Prop := υ 8 0 = nI st ∧ ∀ x, x < 1024 → ∃ m, υ 7 x = nI m ∧ m ≤ st
def kpF (Os : Nat → Nat → Nat) (C t : Nat → Nat) (o : Nat) (K : List Us) : List Us × List Nat := List.foldl (kp1 Os C t o) (K, []) (ext (Os o) t (uLen (Os o)) 0 [])
def kpA (Os : Nat → Nat → Nat) (C t : Nat → Nat) : Nat → List Us
  | 0 => []
  | n + 1 => if Os n 4 = 1 then (kpF Os C t n (kpA Os C t n)).1 else kpA Os C t n
def okA (Os : Nat → Nat → Nat) (C t : Nat → Nat) : Prop := (∀ a, a < 12 → C a ≤ 100000) ∧ sm t 12 ≤ 10 ∧ str t 18 ≤ 3000 ∧ ∀ o, o < 6 → Os o 4 = 1 → t (12 + o) = Os o 3
theorem chn_same {υ w : St} {z : Nat} (h : w 3 = υ 3) : ∀ (L : List Nat) (x : Int32), chn υ z x L → chn w z x L := by
  intro L
  induction L with
  | nil => intro x hc; exact hc
  | cons j r ih =>
    intro x hc
    obtain ⟨h1, h2, h3⟩ := hc
    refine ⟨h1, h2, ?_⟩
    rw [h]; exact ih _ h3
theorem repC_same {Os : Nat → Nat → Nat} {C t : Nat → Nat} {υ w : St} {K : List Us} (h : ∀ d, d ≤ 5 ∨ d = 9 → w d = υ d) (hK : repC Os C t υ K) : repC Os C t w K := by
  obtain ⟨⟨h9, hz, hall⟩, hch⟩ := hK
  refine ⟨⟨by rw [h 9 (Or.inr rfl)]; exact h9, hz, fun j hj => ?_⟩, fun a ha => ?_⟩
  · rw [h 0 (Or.inl (by omega)), h 1 (Or.inl (by omega)), h 2 (Or.inl (by omega))]
    exact hall j hj
  · rw [h 4 (Or.inl (by omega)), h 5 (Or.inl (by omega))]
    exact ⟨chn_same (h 3 (Or.inl (by omega))) _ _ (hch a ha).1, (hch a ha).2⟩
theorem repD_same {υ w : St} {M : List Nat} {st : Nat} (h7 : w 7 = υ 7) (h8 : w 8 = υ 8) (hD : repD υ M st) : repD w M st := by
  obtain ⟨d1, d2, d3⟩ := hD
  exact ⟨by rw [h8]; exact d1, d2, by rw [h7]; exact d3⟩
theorem ext_zero {O t : Nat → Nat} (h : ∀ a, a < 12 → t a = 0) (k lo : Nat) (pre : List Nat) : ext O t (k + 1) lo pre = [] := by
  refine List.eq_nil_iff_forall_not_mem.mpr (fun l hl => ?_)
  unfold ext at hl
  obtain ⟨i, h1, h2, h3⟩ := (exL_mem _ _).mp hl
  have hi := h i (by omega)
  rw [if_neg (fun q => by omega)] at h3
  cases h3
/-- what the lists kept of an offer are like -/
def inv1 (t : Nat → Nat) (k o : Nat) (σ : List Us × List Nat) : Prop := σ.2.Nodup ∧ (∀ x ∈ σ.2, x ∈ cdl t 12 k) ∧ σ.1.length ≤ 210 * o + σ.2.length
theorem inv1_kp {Os : Nat → Nat → Nat} {C t : Nat → Nat} {o : Nat} {l : List Nat} (hc : ∀ a, l.count a ≤ t a) (hx : ∀ x ∈ l, x < 12) {σ : List Us × List Nat} (h : inv1 t l.length o σ) : inv1 t l.length o (kp1 Os C t o σ l) := by
  obtain ⟨h1, h2, h3⟩ := h
  unfold kp1
  split
  · rename_i hq
    refine ⟨List.nodup_cons.mpr ⟨hq.2, h1⟩, fun x hx2 => ?_, ?_⟩
    · rcases List.mem_cons.mp hx2 with e | e
      · rw [e, ← sm_count l hx]
        exact cdl_mem 12 (fun a _ => hc a)
      · exact h2 x e
    · show (σ.1 ++ [(o, l)]).length ≤ 210 * o + (cdU t l :: σ.2).length
      rw [List.length_append, List.length_singleton, List.length_cons]; omega
  · exact ⟨h1, h2, h3⟩
theorem inv1_len {t : Nat → Nat} (hsm : sm t 12 ≤ 10) {k o : Nat} (hk : k ≤ 4) {σ : List Us × List Nat} (h : inv1 t k o σ) : σ.1.length ≤ 210 * (o + 1) := by
  obtain ⟨h1, h2, h3⟩ := h
  have h4 := php σ.2 (cdl t 12 k) h1 h2
  have h5 := cdl_210 hsm hk
  omega
theorem inv1_new {Os : Nat → Nat → Nat} {C t : Nat → Nat} (hsm : sm t 12 ≤ 10) {o : Nat} (ho : o < 6) {l : List Nat} (hl : l.length ≤ 4) (hc : ∀ a, l.count a ≤ t a) (hx : ∀ x ∈ l, x < 12) {σ : List Us × List Nat} (h : inv1 t l.length o σ) (hn : ¬ cdU t l ∈ σ.2) : σ.1.length < 1260 := by
  obtain ⟨h1, h2, h3⟩ := h
  have h4 := php (cdU t l :: σ.2) (cdl t 12 l.length) (List.nodup_cons.mpr ⟨hn, h1⟩) (fun x hx2 => by
    rcases List.mem_cons.mp hx2 with e | e
    · rw [e, ← sm_count l hx]
      exact cdl_mem 12 (fun a _ => hc a)
    · exact h2 x e)
  have h5 := cdl_210 hsm hl
  rw [List.length_cons] at h4
  omega
def Jk (Os : Nat → Nat → Nat) (C t : Nat → Nat) (k o st : Nat) (σ : List Us × List Nat) (u : St) : Prop := repC Os C t u σ.1 ∧ repD u σ.2 st ∧ inv1 t k o σ
theorem Jk_same {Os : Nat → Nat → Nat} {C t : Nat → Nat} {k o st : Nat} (σ : List Us × List Nat) (υ u : St) (hd : ∀ d, d ≠ 6 → u d = υ d) (hj : Jk Os C t k o st σ υ) : Jk Os C t k o st σ u :=
  ⟨repC_same (fun d hd2 => hd d (by omega)) hj.1, repD_same (hd 7 (by decide)) (hd 8 (by decide)) hj.2.1, hj.2.2⟩
theorem pf_collect (N : Nat) (hN : 13 ≤ N) {υ τ ι ϕ : St} {ω : Nat → St} {Os : Nat → Nat → Nat} {C t : Nat → Nat} (hW : repW ω Os) (hτ : ∀ a, a < 12 → τ 0 a = nI (C a)) (hι : ∀ d, d < 18 → ι 0 d = nI (t d) ∧ t d < 100) (hAB : (okA Os C t ∧ ∀ d, d < 18 → ϕ 0 d = nI (str t d)) ∨ ∀ a, a < 12 → t a = 0) {st : Nat} (hS : repS υ st) (hst : st + 6 < 2 ^ 30) (post : St → Prop)
    (hp : ∀ u st2, repC Os C t u (kpA Os C t 6) → repS u st2 → st2 ≤ st + 6 → post u) : wp_Uses_collect N υ τ ω ι ϕ post := by
  have hO : ∀ i, i < 6 → okO (Os i) := fun i hi => (hW i hi).2.2
  have loop : ∀ (n i : Nat) (υ : St) (st2 : Nat), i ≤ 6 → 6 - i < n → repC Os C t υ (kpA Os C t i) → (kpA Os C t i).length ≤ 210 * i → repS υ st2 → st2 ≤ st + i → wp_Uses_collect_24 N τ ω ι ϕ post n (nI i) υ := by
    intro n
    induction n with
    | zero => intro i υ st2 _ h; omega
    | succ n ih =>
      intro i υ st2 hi hn hK hKl hS2 hst2
      rw [wp_Uses_collect_24]
      refine pk_le 6 i (fun hq => ?_) (fun hq => ?_)
      · have : i = 6 := by omega
        subst this
        exact hp υ st2 hK hS2 hst2
      · have hi2 : i < 6 := by omega
        have hOi := hW i hi2
        have hb := hOi.2.2.2.2.2.2.2.1
        rw [nI_clamp (by omega), hOi.1 4 (by omega)]
        refine ⟨vp_in_nI hi2 (by decide), pk_eq (Os i 4) 0 (fun e => ?_) (fun e => fun υ11 e11 => ?_)⟩
        · unfold wp_Uses_collect_73
          rw [nI_1]
          have e1 : kpA Os C t (i + 1) = kpA Os C t i := if_neg (by omega)
          refine ih (i + 1) υ st2 (by omega) (by omega) (by rw [e1]; exact hK) (by rw [e1]; omega) hS2 (by omega)
        · have e4 : Os i 4 = 1 := by omega
          have e1 : kpA Os C t (i + 1) = (kpF Os C t i (kpA Os C t i)).1 := if_pos e4
          refine pf_fill12 N hN _ _ _ (fun u12 hu12 => fun υ14 e14 => ?_)
          have b6 : ∀ a, a < 12 → υ14 6 a = nI (([] : List Nat).count a) := fun a ha => by rw [e14, up_same, hu12 a ha]; rfl
          have b0 : ∀ d, d ≠ 6 → d ≠ 8 → υ14 d = υ d := fun d d6 d8 => by rw [e14, up_ne _ _ d6, e11, s2_comp _ _ _ _ d8]
          have b8 : υ14 8 0 = nI (st2 + 1) := by rw [e14, up_ne _ _ (by decide), e11, s2_same, hS2.1, nI_1]
          have hul := uLen_le (hO i hi2)
          have hD : repD υ14 [] (st2 + 1) := by
            refine ⟨b8, by omega, fun x hx => ?_⟩
            obtain ⟨m, q1, q2⟩ := hS2.2 x hx
            exact ⟨m, by rw [b0 7 (by decide) (by decide)]; exact q1, by omega, fun h => by omega, fun h => by cases h⟩
          have hK14 : repC Os C t υ14 (kpA Os C t i) := repC_same (fun d hd => b0 d (by omega) (by omega)) hK
          have hmem : ∀ l ∈ ext (Os i) t (uLen (Os i)) 0 [], l.length = uLen (Os i) ∧ (∀ x ∈ l, x < 12) ∧ ∀ a, l.count a ≤ t a := by
            intro l hl
            obtain ⟨s, e, hl2, hx⟩ := ext_pre _ _ _ hl
            rw [List.nil_append] at e
            subst e
            exact ⟨hl2, hx, ext_cnt _ _ _ hl (fun a => by rw [List.count_nil]; exact Nat.zero_le _)⟩
          refine pf_cP N hN hi2 hOi (fun d hd => hι d (by omega)) (Jk Os C t (uLen (Os i)) i (st2 + 1)) (kp1 Os C t i) Jk_same 4 [] 0 υ14 (kpA Os C t i, []) _ (by show 0 ≤ _; omega) (by show _ ≤ 0 + 4; omega) (by omega) b6 ⟨hK14, hD, List.nodup_nil, (fun x hx => by cases hx), hKl⟩ (fun l hl υ σ h6 hj post2 hp2 => ?_) (fun u hu6 hj => ?_)
          · obtain ⟨l1, l2, l3⟩ := hmem l hl
            rcases hAB with ⟨⟨hC, hsm, hR, ht⟩, hϕ⟩ | hz
            · have hj3 := hj.2.2
              rw [← l1] at hj3
              refine pf_keep N hN (K := σ.1) (M := σ.2) (st := st2 + 1) ⟨hi2, hC, hsm, hR, ht i hi2 e4, by omega, by omega, l2, l3⟩ hOi hτ hϕ h6 hj.1 hj.2.1 (fun hn => inv1_new (Os := Os) (C := C) hsm hi2 (by omega) l3 l2 hj3 hn) post2 (fun u hu6 hc hd => hp2 u hu6 ⟨hc, hd, ?_⟩)
              have := inv1_kp (Os := Os) (C := C) l3 l2 hj3
              rw [l1] at this
              exact this
            · exfalso
              have h0 : 0 < l.length := by omega
              cases l with
              | nil => simp at h0
              | cons b r =>
                have h1 := l3 b
                rw [hz b (l2 b List.mem_cons_self)] at h1
                have := List.count_pos_iff.mpr (List.mem_cons_self (a := b) (l := r))
                omega
          · unfold wp_Uses_collect_73
            rw [nI_1]
            obtain ⟨q1, q2, q3⟩ := hj
            refine ih (i + 1) u (st2 + 1) (by omega) (by omega) (by rw [e1]; exact q1) ?_ ⟨q2.1, fun x hx => ?_⟩ (by omega)
            · rw [e1]
              rcases hAB with ⟨⟨hC, hsm, hR, ht⟩, hϕ⟩ | hz
              · exact inv1_len hsm (k := uLen (Os i)) (by omega) q3
              · obtain ⟨k, hk⟩ : ∃ k, uLen (Os i) = k + 1 := ⟨uLen (Os i) - 1, by omega⟩
                unfold kpF
                rw [hk, ext_zero hz]
                show (kpA Os C t i).length ≤ _
                omega
            · obtain ⟨m, m1, m2, -⟩ := q2.2.2 x hx
              exact ⟨m, m1, m2⟩
  unfold wp_Uses_collect
  intro υ1 e1
  refine pf_fill12 N hN _ _ _ (fun u2 hu2 => fun υ4 e4 => pf_fill12 N hN _ _ _ (fun u5 hu5 => fun υ7 e7 => ?_))
  have b0 : ∀ d, d ≠ 4 → d ≠ 5 → d ≠ 9 → υ7 d = υ d := fun d d4 d5 d9 => by rw [e7, up_ne _ _ d5, e4, up_ne _ _ d4, e1, s2_comp _ _ _ _ d9]
  refine loop N 0 υ7 st (by omega) (by omega) ⟨⟨?_, Nat.zero_le _, fun j hj => by cases hj⟩, fun a ha => ⟨?_, Or.inl ⟨rfl, ?_⟩⟩⟩ (Nat.le_refl _) ⟨?_, ?_⟩ (by omega)
  · rw [e7, up_ne _ _ (by decide), e4, up_ne _ _ (by decide), e1, s2_same]; rfl
  · show υ7 4 a = -1
    rw [e7, up_ne _ _ (by decide), e4, up_same]; exact hu2 a ha
  · rw [e7, up_same]; exact hu5 a ha
  · rw [b0 8 (by decide) (by decide) (by decide)]; exact hS.1
  · rw [b0 7 (by decide) (by decide) (by decide)]; exact hS.2
