/-! giveBack -/
abbrev gvK (A : AS) (r i : Nat) : Nat → Bool := gup (Ark A r) i false
abbrev gvT (A : AS) (r i : Nat) : Nat := TL (ArO A r) (ArC A r) (kB (gvK A r i) (Arb A r) (Arz A r)) (kc (gvK A r i) (Arz A r))
abbrev gvN (A : AS) (r i : Nat) : Nat := max (Arr A r) (Arp A r - gvT A r i)
def aGiv (A : AS) (r i : Nat) : AS := (AOs A, AC A, AX A, Ab A, Az A, AR A, AD A - nI (gvN A r i - Arr A r), ArO A, ArC A, Arb A, Arz A, Arf A, Ary A, gup (Ark A) r (gvK A r i), Arp A, gup (Arr A) r (gvN A r i))
theorem gvN_le {A : AS} {r : Nat} (h : okR A r) (i : Nat) : gvN A r i ≤ Arp A r := by
  have := h.2.2.2.2.2.2.2
  exact Nat.max_le.mpr ⟨this, Nat.sub_le _ _⟩
theorem okR_giv {A : AS} {r q : Nat} (i : Nat) (h : okR A q) : okR (aGiv A r i) q := by
  obtain ⟨h1, h2, h3, h4, h5, h6, h7, h8⟩ := id h
  refine ⟨h1, h2, h3, h4, h5, h6, h7, ?_⟩
  show gup (Arr A) r (gvN A r i) q ≤ Arp A q
  by_cases e : q = r
  · subst e; rw [gup_same]; exact gvN_le h i
  · rw [gup_ne _ _ e]; exact h8
theorem ok_giv {A : AS} (h : okS A) (r i : Nat) : okS (aGiv A r i) :=
  ⟨h.hO, h.hC, h.hX, h.hz, h.hb, h.hroom, h.hR, fun q hq => okR_giv i (h.hrec q hq)⟩
theorem rcS_giv_old {A : AS} {r q i : Nat} {χ β2 τ2 : St} {ω2 : Nat → St} (h : rcS A q χ β2 τ2 ω2) (e : q ≠ r) : rcS (aGiv A r i) q χ β2 τ2 ω2 := by
  unfold rcS Arb Arz ArC ArO Arf Ary Ark Arp Arr aGiv
  dsimp only
  rw [gup_ne _ _ e, gup_ne _ _ e]
  exact h
theorem TL_le {Os : Nat → Nat → Nat} {C b : Nat → Nat} {z : Nat} (hO : ∀ i, i < 6 → okO (Os i)) (hC : ∀ a, a < 12 → C a ≤ 100000) (hz : z ≤ 10) (hb : ∀ i, i < z → b i < 12) : TL Os C b z ≤ 1000000 := by
  obtain ⟨h1, h2, -⟩ := planP_ok hO hC hz hb
  have h3 := ys_le h2 z
  have h5 : z * 100000 ≤ 10 * 100000 := Nat.mul_le_mul_right _ hz
  rw [← h1]
  exact Nat.le_trans h3 h5
theorem gvT_le {A : AS} {r : Nat} (h : okR A r) (i : Nat) : gvT A r i ≤ 1000000 := by
  obtain ⟨h1, h2, h3, h4, h5, h6, h7, h8⟩ := id h
  exact TL_le h1 h2 (Nat.le_trans (kc_le _ _) h3) (kB_lt _ h4)
theorem pf_copyKept (N : Nat) (hN : 11 ≤ N) {χ β2 : St} (β : St) {b : Nat → Nat} {z : Nat} (hB : repB β2 b z) {k : Nat → Bool} (hk : ∀ i, i < z → χ 4 i = bI (k i)) (post : St → Prop) (hp : ∀ u, repB u (kB k b z) (kc k z) → post u) : wp_Rec_copyKeptTo N χ β2 β post := by
  have hz := hB.1
  unfold wp_Rec_copyKeptTo
  intro β1 e1
  have loop : ∀ (n i : Nat) (w : St), i ≤ z → z - i < n → repB w (kB k b i) (kc k i) → wp_Rec_copyKeptTo_7 N χ β2 post n (nI i) w := by
    intro n
    induction n with
    | zero => intro i w _ h; omega
    | succ n ih =>
      intro i w hi hn hw
      rw [wp_Rec_copyKeptTo_7, hB.2.1]
      refine pk_le z i (fun hq => ?_) (fun hq => ?_)
      · have : i = z := by omega
        subst this
        exact hp w hw
      · unfold wp_Rec_copyKeptTo_40
        rw [nI_clamp (by omega), hk i hq, (hB.2.2 i hq).1, nI_1]
        have hin : vp_in (nI i) 10 := vp_in_nI (by omega) (by decide)
        refine ⟨hin, fun h0 => ?_, fun h1 => ⟨hin, ?_⟩⟩
        · cases e : k i with
          | true => rw [e] at h0; exact absurd h0 (by decide)
          | false => exact ih (i + 1) w (by omega) (by omega) (by rw [kB_f e, kc_f e]; exact hw)
        · cases e : k i with
          | true =>
            refine pf_add N hw (by have := kc_le k i; omega) (hB.2.2 i hq).2 _ (fun u hu => ?_)
            exact ih (i + 1) u (by omega) (by omega) (by rw [kB_t e, kc_t e]; exact hu)
          | false => rw [e] at h1; exact absurd rfl h1
  exact loop N 0 β1 (by omega) (by omega) ⟨by show 0 ≤ 10; omega, by rw [e1, s2_same]; rfl, fun i hi => absurd hi (Nat.not_lt_zero i)⟩
theorem clT_giv {A : AS} (hok : okS A) (N : Nat) (hN : 100001 ≤ N) {θ α : St} (ε β κ υ : St) (ο : Nat → Int64) (hα : α 2 0 = nI (AR A)) (hθ : θ 8 0 = AD A) {r : Nat} (hr : r < AR A) {χ β2 τ : St} {ω : Nat → St} (hc : rcS A r χ β2 τ ω) {st : Nat} (hS : repS υ st) (hst : st + 6 < 2 ^ 30) (x2 : Int32) (post : Int32 → (St × St × St × St × St × (Nat → Int64)) → Prop)
    (h1 : ¬ rg 0 (Arz A r) x2 → post 1 (θ, χ, β, κ, υ, ο))
    (h2 : ∀ i, i < Arz A r → x2 = nI i → Ark A r i = false → post 2 (θ, χ, β, κ, υ, ο))
    (h0 : ∀ i, i < Arz A r → x2 = nI i → Ark A r i = true → ∀ θ2 χ2 β3 κ2 υ2 ο2 st2, st2 ≤ st + 6 → repS υ2 st2 → θ2 8 0 = AD (aGiv A r i) → (∀ d, d ≠ 8 → θ2 d = θ d) → rcS (aGiv A r i) r χ2 β2 τ ω → ο2 0 = Int32.toInt64 (nI (gvN A r i - Arr A r)) → post 0 (θ2, χ2, β3, κ2, υ2, ο2)) : wp_Law_giveBack N θ α ε χ β2 τ ω β κ υ ο (nI r) x2 post := by
  obtain ⟨a1, a2, a3, a4, a5, a6⟩ := id hc
  have hR := hok.hR
  have hz := a1.1
  have hokr := hok.hrec r hr
  obtain ⟨o1, o2, o3, o4, o5, o6, o7, o8⟩ := id hokr
  unfold wp_Law_giveBack wp_Till_giveBack
  refine pf_recAt N hR ε χ β2 hα hr _ _ ?_
  refine pf_reqIdx N (z := Arz A r) (by omega) a1.2.1 _ _ (fun i hi e2 => ?_) (fun hn => Or.inl ⟨rfl, h1 hn⟩)
  subst e2
  have hin : vp_in (nI i) 10 := vp_in_nI (by omega) (by decide)
  rw [nI_clamp (by omega), (a4 i hi).2.2]
  refine ⟨hin, fun hne => ⟨hin, fun χ8 e8 => ?_⟩, fun he => Or.inr ⟨rfl, h2 i hi rfl ?_⟩⟩
  · have hki : Ark A r i = true := by
      cases e : Ark A r i with
      | true => rfl
      | false => rw [e] at hne; exact absurd rfl hne
    have k8 : ∀ j, j < Arz A r → χ8 4 j = bI (gvK A r i j) := by
      intro j hj
      by_cases e : j = i
      · subst e; rw [e8, s2_same, show gvK A r j j = false from gup_same ..]; rfl
      · rw [e8, s2_ne _ _ _ _ (Or.inr e), show gvK A r i j = Ark A r j from gup_ne _ _ e]; exact (a4 j hj).2.2
    refine pf_copyKept N (by omega) β a1 k8 _ (fun u9 hu9 => ?_)
    refine pf_Pleast N hN a3 a2 o2 (z := kc (gvK A r i) (Arz A r)) (b := kB (gvK A r i) (Arb A r) (Arz A r)) hu9.1 hu9.2.1 hu9.2.2 (kB_room _ o5) hS hst _ (fun κ2 υ2 st2 g1 g2 => ?_)
    unfold wp_Rec_raiseRefund
    intro χ1 e1
    have c5 : χ8 5 0 = nI (Arp A r) := by rw [e8, s2_ne _ _ _ _ (Or.inl (by decide))]; exact a5
    have c6 : χ8 6 0 = nI (Arr A r) := by rw [e8, s2_ne _ _ _ _ (Or.inl (by decide))]; exact a6
    have ht := gvT_le hokr i
    rw [c5, c6, rf_max (R := Arr A r) (p := Arp A r) (t := gvT A r i) (by omega) (by omega) (by omega)] at e1
    have d6 : χ1 6 0 = nI (gvN A r i) := by rw [e1, s2_same]
    rw [d6, c6, pk_sub (Nat.le_max_left _ _)]
    intro θ15 e15
    refine ⟨vp_in_nI (n := 0) (by decide) (by decide), fun ο4 e4 => h0 i hi rfl hki θ15 χ1 u9 κ2 υ2 ο4 st2 g1 g2 ?_ (fun d hd => by rw [e15, s2_comp _ _ _ _ hd]) ?_ ?_⟩
    · rw [e15, s2_same, hθ]; rfl
    · unfold rcS Arb Arz ArC ArO Arf Ary Ark Arp Arr aGiv
      dsimp only
      rw [gup_same, gup_same]
      refine ⟨a1, a2, a3, fun j hj => ?_, ?_, d6⟩
      · rw [← k8 j hj, e1, s2_comp _ _ _ _ (by decide), s2_comp _ _ _ _ (by decide), s2_comp _ _ _ _ (by decide)]
        refine ⟨?_, ?_, rfl⟩
        · rw [e8, s2_comp _ _ _ _ (by decide)]; exact (a4 j hj).1
        · rw [e8, s2_comp _ _ _ _ (by decide)]; exact (a4 j hj).2.1
      · rw [e1, s2_ne _ _ _ _ (Or.inl (by decide))]; exact c5
    · rw [e4]
      exact upL_same ..
  · cases e : Ark A r i with
    | true => rw [e] at he; exact absurd he (by decide)
    | false => rfl
theorem clT_givN {A : AS} (hok : okS A) (N : Nat) {θ α : St} (ο : Nat → Int64) (hα : α 2 0 = nI (AR A)) {x1 : Int32} (hr : ¬ rg 0 (AR A) x1) (x2 : Int32) (post : Int32 → (Nat → Int64) → Prop) (h1 : post 1 ο) : wp_Law_giveBackN N θ α ο x1 x2 post := by
  unfold wp_Law_giveBackN wp_Till_giveBackN
  exact pf_recAtN N hok.hR hα hr _ _ (Or.inl ⟨rfl, h1⟩)
theorem clS_giv {A : AS} {r i : Nat} {θ θ2 β τ : St} {ω : Nat → St} {π : St} (h : clS A θ β τ ω π) (h7 : θ2 8 0 = AD (aGiv A r i)) (hd : ∀ d, d ≠ 8 → θ2 d = θ d) : clS (aGiv A r i) θ2 β τ ω π := by
  obtain ⟨a1, a2, a3, a4, a5⟩ := h
  exact ⟨h7, a2, by rw [hd 1 (by decide)]; exact a3, a4, by rw [hd 7 (by decide)]; exact a5⟩
