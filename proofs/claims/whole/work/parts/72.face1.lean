/-! the till between calls: what class and reference hold of it -/
abbrev AS : Type := (Nat → Nat → Nat) × (Nat → Nat) × (Nat → Nat) × (Nat → Nat) × (Nat) × (Nat) × (Int32) × (Nat → Nat → Nat → Nat) × (Nat → Nat → Nat) × (Nat → Nat → Nat) × (Nat → Nat) × (Nat → Nat → Int32) × (Nat → Nat → Nat) × (Nat → Nat → Bool) × (Nat → Nat) × (Nat → Nat)
abbrev AOs (A : AS) : Nat → Nat → Nat := A.1
abbrev AC (A : AS) : Nat → Nat := A.2.1
abbrev AX (A : AS) : Nat → Nat := A.2.2.1
abbrev Ab (A : AS) : Nat → Nat := A.2.2.2.1
abbrev Az (A : AS) : Nat := A.2.2.2.2.1
abbrev AR (A : AS) : Nat := A.2.2.2.2.2.1
abbrev AD (A : AS) : Int32 := A.2.2.2.2.2.2.1
abbrev ArO (A : AS) : Nat → Nat → Nat → Nat := A.2.2.2.2.2.2.2.1
abbrev ArC (A : AS) : Nat → Nat → Nat := A.2.2.2.2.2.2.2.2.1
abbrev Arb (A : AS) : Nat → Nat → Nat := A.2.2.2.2.2.2.2.2.2.1
abbrev Arz (A : AS) : Nat → Nat := A.2.2.2.2.2.2.2.2.2.2.1
abbrev Arf (A : AS) : Nat → Nat → Int32 := A.2.2.2.2.2.2.2.2.2.2.2.1
abbrev Ary (A : AS) : Nat → Nat → Nat := A.2.2.2.2.2.2.2.2.2.2.2.2.1
abbrev Ark (A : AS) : Nat → Nat → Bool := A.2.2.2.2.2.2.2.2.2.2.2.2.2.1
abbrev Arp (A : AS) : Nat → Nat := A.2.2.2.2.2.2.2.2.2.2.2.2.2.2.1
abbrev Arr (A : AS) : Nat → Nat := A.2.2.2.2.2.2.2.2.2.2.2.2.2.2.2
def okR (A : AS) (r : Nat) : Prop := (∀ i, i < 6 → okO (ArO A r i)) ∧ (∀ a, a < 12 → ArC A r a ≤ 100000) ∧ Arz A r ≤ 10 ∧ (∀ i, i < Arz A r → Arb A r i < 12) ∧ str (tN (ArO A r) (Arb A r) (Arz A r)) 18 ≤ 3000 ∧ (∀ i, Ary A r i ≤ 100000) ∧ Arp A r ≤ 1000000 ∧ Arr A r ≤ Arp A r
def okS (A : AS) : Prop := (∀ i, i < 6 → okO (AOs A i)) ∧ (∀ a, a < 12 → AC A a ≤ 100000) ∧ (∀ a, a < 12 → AX A a ≤ 3) ∧ Az A ≤ 10 ∧ (∀ i, i < Az A → Ab A i < 12) ∧ str (tN (AOs A) (Ab A) (Az A)) 18 ≤ 3000 ∧ AR A ≤ 12 ∧ ∀ r, r < AR A → okR A r
theorem okS.hO {A : AS} (h : okS A) : ∀ i, i < 6 → okO (AOs A i) := h.1
theorem okS.hC {A : AS} (h : okS A) : ∀ a, a < 12 → AC A a ≤ 100000 := h.2.1
theorem okS.hX {A : AS} (h : okS A) : ∀ a, a < 12 → AX A a ≤ 3 := h.2.2.1
theorem okS.hz {A : AS} (h : okS A) : Az A ≤ 10 := h.2.2.2.1
theorem okS.hb {A : AS} (h : okS A) : ∀ i, i < Az A → Ab A i < 12 := h.2.2.2.2.1
theorem okS.hroom {A : AS} (h : okS A) : str (tN (AOs A) (Ab A) (Az A)) 18 ≤ 3000 := h.2.2.2.2.2.1
theorem okS.hR {A : AS} (h : okS A) : AR A ≤ 12 := h.2.2.2.2.2.2.1
theorem okS.hrec {A : AS} (h : okS A) : ∀ r, r < AR A → okR A r := h.2.2.2.2.2.2.2
def clS (A : AS) (θ β τ : St) (ω : Nat → St) (π : St) : Prop := θ 8 0 = (AD A) ∧ repB β (Ab A) (Az A) ∧ (∀ a, a < 12 → τ 0 a = nI ((AC A) a) ∧ θ 1 a = nI ((AX A) a)) ∧ repW ω (AOs A) ∧ (θ 7 0 = 0 ∨ (θ 7 0 = 1 ∧ repP π (Az A) (planP (AOs A) (AC A) (Ab A) (Az A))))
def recS (A : AS) (μ : St) (r : Nat) : Prop := μ 12 r = nI ((Arz A) r) ∧ μ 13 r = nI ((Arp A) r) ∧ μ 14 r = nI ((Arr A) r) ∧ (∀ i, i < (Arz A) r → μ 15 (10 * r + i) = nI ((Arb A) r i) ∧ μ 16 (10 * r + i) = nI ((ArC A) r ((Arb A) r i)) ∧ μ 17 (10 * r + i) = (Arf A) r i ∧ μ 18 (10 * r + i) = nI ((Ary A) r i) ∧ μ 19 (10 * r + i) = bI (!(Ark A) r i)) ∧ ∀ i, i < 6 → repK μ (6 * r + i) ((ArO A) r i)
def moS (A : AS) (μ : St) : Prop := (∀ a, a < 12 → μ 0 a = nI ((AC A) a) ∧ μ 1 a = nI ((AX A) a)) ∧ (∀ i, i < 6 → repK μ (72 + i) ((AOs A) i)) ∧ (∀ i, i < (Az A) → μ 8 i = nI ((Ab A) i)) ∧ μ 9 0 = nI (Az A) ∧ μ 10 0 = nI (AR A) ∧ μ 11 0 = (AD A) ∧ (∀ r, r < (AR A) → recS A μ r) ∧ (∀ q, 10 * (AR A) ≤ q → q < 120 → μ 19 q = 0) ∧ ∀ q, (AR A) ≤ q → q < 12 → μ 14 q = 0
theorem repK_same {μ w : St} {k : Nat} {O : Nat → Nat} (h : ∀ d, 2 ≤ d → d ≤ 7 → w d = μ d) (hK : repK μ k O) : repK w k O := by
  obtain ⟨k1, k2, k3, k4, k5, k6, k7⟩ := hK
  unfold repK
  rw [h 2 (by omega) (by omega), h 3 (by omega) (by omega), h 4 (by omega) (by omega), h 5 (by omega) (by omega), h 6 (by omega) (by omega), h 7 (by omega) (by omega)]
  exact ⟨k1, k2, k3, k4, k5, k6, k7⟩
theorem recS_same {A : AS} {μ w : St} {r : Nat} (h : ∀ d, (2 ≤ d ∧ d ≤ 7) ∨ (12 ≤ d ∧ d ≤ 19) → w d = μ d) (hr : recS A μ r) : recS A w r := by
  obtain ⟨r1, r2, r3, r4, r5⟩ := hr
  refine ⟨by rw [h 12 (by omega)]; exact r1, by rw [h 13 (by omega)]; exact r2, by rw [h 14 (by omega)]; exact r3, ?_, fun i hi => repK_same (fun d h1 h2 => h d (by omega)) (r5 i hi)⟩
  rw [h 15 (by omega), h 16 (by omega), h 17 (by omega), h 18 (by omega), h 19 (by omega)]
  exact r4
theorem moS_same {A : AS} {μ w : St} (h : ∀ d, d < 20 → w d = μ d) (hm : moS A μ) : moS A w := by
  obtain ⟨m1, m2, m3, m4, m5, m6, m7, m8⟩ := hm
  refine ⟨?_, fun i hi => repK_same (fun d h1 h2 => h d (by omega)) (m2 i hi), ?_, ?_, ?_, ?_, fun r hr => recS_same (fun d hd => h d (by omega)) (m7 r hr), ?_⟩
  · rw [h 0 (by omega), h 1 (by omega)]; exact m1
  · rw [h 8 (by omega)]; exact m3
  · rw [h 9 (by omega)]; exact m4
  · rw [h 10 (by omega)]; exact m5
  · rw [h 11 (by omega)]; exact m6
  · rw [h 19 (by omega), h 14 (by omega)]; exact m8
/-! ranges -/
theorem wi_case {x y : Int32} {lo n : Nat} (hn : n < 2 ^ 30) (hlo : lo < 2 ^ 30) (hy : y = nI n - 1) : (x < nI lo ∧ ¬ ∃ j, lo ≤ j ∧ j < n ∧ x = nI j) ∨ (¬ x < nI lo ∧ y < x ∧ ¬ ∃ j, lo ≤ j ∧ j < n ∧ x = nI j) ∨ (¬ x < nI lo ∧ ¬ y < x ∧ ∃ j, lo ≤ j ∧ j < n ∧ x = nI j) := by
  have hyi : y.toInt = (n : Int) - 1 := by
    rw [hy]
    have := pk_sub_toInt (a := n) (b := 1) hn (by decide)
    exact this
  have hli : (nI lo).toInt = (lo : Int) := nI_toInt (by omega)
  have hno : ∀ j, j < n → x = nI j → x.toInt = (j : Int) := fun j hj e => by rw [e, nI_toInt (by omega)]
  rw [Int32.lt_iff_toInt_lt, Int32.lt_iff_toInt_lt, hyi, hli]
  by_cases h1 : x.toInt < (lo : Int)
  · left
    refine ⟨h1, fun ⟨j, j1, j2, j3⟩ => ?_⟩
    have := hno j j2 j3
    omega
  · by_cases h2 : (n : Int) - 1 < x.toInt
    · right; left
      refine ⟨h1, h2, fun ⟨j, j1, j2, j3⟩ => ?_⟩
      have := hno j j2 j3
      omega
    · right; right
      refine ⟨h1, h2, x.toInt.toNat, by omega, by omega, ?_⟩
      refine Int32.toInt_inj.mp ?_
      rw [nI_toInt (by omega)]
      omega
theorem pf_Tw (N : Nat) {x y : Int32} {lo n : Nat} (hn : n < 2 ^ 30) (hlo : lo < 2 ^ 30) (hy : y = nI n - 1) (post : Int32 → Unit → Prop) (h1 : ∀ j, lo ≤ j → j < n → x = nI j → post 1 ()) (h0 : (¬ ∃ j, lo ≤ j ∧ j < n ∧ x = nI j) → post 0 ()) : wp_Till_within N x (nI lo) y post := by
  unfold wp_Till_within wp_Till_within_14
  rcases wi_case (x := x) hn hlo hy with ⟨a1, a2⟩ | ⟨a1, a2, a3⟩ | ⟨a1, a2, j, a3, a4, a5⟩
  · exact ⟨fun _ => h0 a2, fun h => absurd a1 h⟩
  · exact ⟨fun h => absurd h a1, fun _ => ⟨fun _ => h0 a3, fun h => absurd a2 h⟩⟩
  · exact ⟨fun h => absurd h a1, fun _ => ⟨fun h => absurd h a2, fun _ => h1 j a3 a4 a5⟩⟩
theorem pf_Mw (N : Nat) {x y : Int32} {lo n : Nat} (hn : n < 2 ^ 30) (hlo : lo < 2 ^ 30) (hy : y = nI n - 1) (post : Int32 → Unit → Prop) (h1 : ∀ j, lo ≤ j → j < n → x = nI j → post 1 ()) (h0 : (¬ ∃ j, lo ≤ j ∧ j < n ∧ x = nI j) → post 0 ()) : wp_Model_within N x (nI lo) y post := by
  unfold wp_Model_within wp_Model_within_14
  rcases wi_case (x := x) hn hlo hy with ⟨a1, a2⟩ | ⟨a1, a2, a3⟩ | ⟨a1, a2, j, a3, a4, a5⟩
  · exact ⟨fun _ => h0 a2, fun h => absurd a1 h⟩
  · exact ⟨fun h => absurd h a1, fun _ => ⟨fun _ => h0 a3, fun h => absurd a2 h⟩⟩
  · exact ⟨fun h => absurd h a1, fun _ => ⟨fun h => absurd h a2, fun _ => h1 j a3 a4 a5⟩⟩
/-- a good argument -/
def rg (lo n : Nat) (x : Int32) : Prop := ∃ j, lo ≤ j ∧ j < n ∧ x = nI j
theorem pf_TwA (N : Nat) {x y : Int32} {lo n : Nat} (hn : n < 2 ^ 30) (hlo : lo < 2 ^ 30) (hy : y = nI n - 1) (post : Unit → Prop) (xp : String → Unit → Prop) (h1 : ∀ j, lo ≤ j → j < n → x = nI j → post ()) (h0 : ¬ rg lo n x → xp eIA ()) : wp_Till_within N x (nI lo) y (fun r2 _ => wp_Till_requireArgument N r2 post xp) := by
  refine pf_Tw N hn hlo hy _ (fun j a b c => ?_) (fun h => ?_)
  · unfold wp_Till_requireArgument
    exact ⟨fun _ => h1 j a b c, fun h => absurd h (by decide)⟩
  · unfold wp_Till_requireArgument
    exact ⟨fun h2 => absurd rfl h2, fun _ => h0 h⟩
theorem pf_reqArt (N : Nat) {x : Int32} (post : Unit → Prop) (xp : String → Unit → Prop) (h1 : ∀ j, j < 12 → x = nI j → post ()) (h0 : ¬ rg 0 12 x → xp eIA ()) : wp_Till_requireArticle N x post xp := by
  unfold wp_Till_requireArticle
  exact pf_TwA N (lo := 0) (n := 12) (by decide) (by decide) (by decide) _ _ (fun j _ h2 h3 => h1 j h2 h3) h0
theorem pf_reqOff (N : Nat) {x : Int32} (post : Unit → Prop) (xp : String → Unit → Prop) (h1 : ∀ j, j < 6 → x = nI j → post ()) (h0 : ¬ rg 0 6 x → xp eIA ()) : wp_Till_requireOffer N x post xp := by
  unfold wp_Till_requireOffer
  exact pf_TwA N (lo := 0) (n := 6) (by decide) (by decide) (by decide) _ _ (fun j _ h2 h3 => h1 j h2 h3) h0
theorem pf_reqIdx (N : Nat) {x y : Int32} {z : Nat} (hz : z < 2 ^ 30) (hy : y = nI z) (post : Unit → Prop) (xp : String → Unit → Prop) (h1 : ∀ j, j < z → x = nI j → post ()) (h0 : ¬ rg 0 z x → xp eIO ()) : wp_Till_requireIndex N x y post xp := by
  unfold wp_Till_requireIndex
  refine pf_Tw N (lo := 0) (n := z) hz (by decide) (by rw [hy]) _ (fun j _ b c => ⟨fun _ => h1 j b c, fun h => absurd h (by decide)⟩) (fun h => ⟨fun h2 => absurd rfl h2, fun _ => h0 h⟩)
theorem rg_of {lo n j : Nat} (h1 : lo ≤ j) (h2 : j < n) : rg lo n (nI j) := ⟨j, h1, h2, rfl⟩
/-! an empty basket has one plan -/
theorem planP_0 (Os : Nat → Nat → Nat) (C b : Nat → Nat) : (psn (planP Os C b 0)) = 0 := rfl
theorem repP_0 {π : St} {Os Os2 : Nat → Nat → Nat} {C C2 b b2 : Nat → Nat} (h : repP π 0 (planP Os C b 0)) : repP π 0 (planP Os2 C2 b2 0) := ⟨(fun j hj => by cases hj), h.2⟩
theorem room_0 (Os : Nat → Nat → Nat) (b : Nat → Nat) : str (tN Os b 0) 18 ≤ 3000 := by
  rw [str_zero (t := tN Os b 0) (fun d => if_pos rfl)]
  decide
/-! article -/
def fup (f : Nat → Nat) (k v : Nat) : Nat → Nat := fun j => if j = k then v else f j
theorem fup_same (f : Nat → Nat) (k v : Nat) : fup f k v k = v := if_pos rfl
theorem fup_ne (f : Nat → Nat) {k j : Nat} (v : Nat) (h : j ≠ k) : fup f k v j = f j := if_neg h
def aArt (A : AS) (i c x : Nat) : AS := (AOs A, fup (AC A) i c, fup (AX A) i x, A.2.2.2)
theorem ok_aArt {A : AS} (h : okS A) (h0 : (Az A) = 0) {i c x : Nat} (hc : c ≤ 100000) (hx : x ≤ 3) : okS (aArt A i c x) := by
  obtain ⟨hO, hC, hX, hz, hb, hroom, hR, hrec⟩ := h
  refine ⟨hO, fun a ha => ?_, fun a ha => ?_, hz, hb, hroom, hR, fun r hr => ?_⟩
  · show fup (AC A) i c a ≤ 100000
    unfold fup; split
    · exact hc
    · exact hC a ha
  · show fup (AX A) i x a ≤ 3
    unfold fup; split
    · exact hx
    · exact hX a ha
  · obtain ⟨q1, q2, q3, q4, q5, q6, q7, q8⟩ := hrec r hr
    exact ⟨q1, q2, q3, q4, q5, q6, q7, q8⟩
theorem clT_art {A : AS} {θ β τ : St} {ω : Nat → St} {π : St} (hA : clS A θ β τ ω π) (N : Nat) (x1 x2 x3 : Int32) (post : Int32 → St × St → Prop)
    (h1 : ¬ (rg 0 12 x1 ∧ rg 1 100001 x2 ∧ rg 0 4 x3) → post 1 (θ, τ)) (h2 : rg 0 12 x1 ∧ rg 1 100001 x2 ∧ rg 0 4 x3 → (Az A) ≠ 0 → post 2 (θ, τ))
    (h0 : ∀ i c x, i < 12 → 1 ≤ c → c ≤ 100000 → x ≤ 3 → x1 = nI i → x2 = nI c → x3 = nI x → (Az A) = 0 → ∀ θ2 τ2, clS (aArt A i c x) θ2 β τ2 ω π → post 0 (θ2, τ2)) : wp_Law_article N θ β τ x1 x2 x3 post := by
  obtain ⟨a1, a2, a3, a4, a5⟩ := id hA
  unfold wp_Law_article wp_Till_article
  refine pf_reqArt N _ _ (fun i hi e1 => ?_) (fun hn => Or.inl ⟨rfl, h1 (fun h => hn h.1)⟩)
  refine pf_TwA N (lo := 1) (n := 100001) (by decide) (by decide) (by decide) _ _ (fun c hc1 hc2 e2 => ?_) (fun hn => Or.inl ⟨rfl, h1 (fun h => hn h.2.1)⟩)
  refine pf_TwA N (lo := 0) (n := 4) (by decide) (by decide) (by decide) _ _ (fun x _ hx e3 => ?_) (fun hn => Or.inl ⟨rfl, h1 (fun h => hn h.2.2)⟩)
  subst e1 e2 e3
  unfold wp_Till_requireEmptyBasket
  rw [a2.2.1]
  have hz10 := a2.1
  refine pk_eq (Az A) 0 (fun hz => ?_) (fun hz => Or.inr ⟨rfl, h2 ⟨rg_of (by omega) hi, rg_of hc1 hc2, rg_of (by omega) hx⟩ hz⟩)
  rw [nI_clamp (by omega)]
  refine ⟨vp_in_nI hi (by decide), fun τ14 e14 => ⟨vp_in_nI hi (by decide), fun θ16 e16 => ?_⟩⟩
  refine h0 i c x hi hc1 (by omega) (by omega) rfl rfl rfl hz θ16 τ14 ⟨by rw [e16, s2_comp _ _ _ _ (by decide)]; exact a1, a2, fun a ha => ?_, a4, ?_⟩
  · show τ14 0 a = nI (fup (AC A) i c a) ∧ θ16 1 a = nI (fup (AX A) i x a)
    by_cases e : a = i
    · subst e
      rw [fup_same, fup_same]
      exact ⟨by rw [e14, s2_same], by rw [e16, s2_same]⟩
    · rw [fup_ne _ _ e, fup_ne _ _ e]
      exact ⟨by rw [e14, s2_ne _ _ _ _ (Or.inr e)]; exact (a3 a ha).1, by rw [e16, s2_ne _ _ _ _ (Or.inr e)]; exact (a3 a ha).2⟩
  · rw [e16, s2_comp _ _ _ _ (by decide)]
    rcases a5 with q | ⟨q1, q2⟩
    · exact Or.inl q
    · refine Or.inr ⟨q1, ?_⟩
      show repP π (Az A) (planP (AOs A) (fup (AC A) i c) (Ab A) (Az A))
      rw [hz] at q2 ⊢
      exact repP_0 q2
theorem ne3 {a b : Int32} (h : ¬ a = b) : ¬ a = b := h
theorem moT_art {A : AS} {μ : St} (hok : okS A) (hA : moS A μ) (N : Nat) (x1 x2 x3 : Int32) (post : St → Prop)
    (h1 : ¬ (rg 0 12 x1 ∧ rg 1 100001 x2 ∧ rg 0 4 x3) → ∀ u, u 39 0 = 1 → moS A u → post u) (h2 : rg 0 12 x1 ∧ rg 1 100001 x2 ∧ rg 0 4 x3 → (Az A) ≠ 0 → ∀ u, u 39 0 = 2 → moS A u → post u)
    (h0 : ∀ i c x, i < 12 → 1 ≤ c → c ≤ 100000 → x ≤ 3 → x1 = nI i → x2 = nI c → x3 = nI x → (Az A) = 0 → ∀ u, u 39 0 = 0 → moS (aArt A i c x) u → post u) : wp_Model_article N μ x1 x2 x3 post := by
  have hz10 := hok.hz
  have bad : ¬ (rg 0 12 x1 ∧ rg 1 100001 x2 ∧ rg 0 4 x3) → wp_Model_article_33 N post (wp_Model_article_34 N post) x1 x2 x3 μ := by
    intro hn
    unfold wp_Model_article_33 wp_Model_article_34 wp_Model_article_58
    refine ⟨fun h => absurd rfl h, fun _ => fun μ12 e12 => ?_⟩
    have e39 : μ12 39 0 = 1 := by rw [e12, s2_same]
    rw [e39]
    exact ⟨fun h => absurd h (by decide), fun _ => h1 hn μ12 e39 (moS_same (fun d hd => by rw [e12, s2_comp _ _ _ _ (by omega)]) hA)⟩
  unfold wp_Model_article
  refine pf_Mw N (lo := 0) (n := 12) (by decide) (by decide) (by decide) _ (fun i _ hi e1 => ⟨fun h => absurd h (by decide), fun _ => ?_⟩) (fun hn => ⟨fun _ => bad (fun h => hn h.1), fun h => absurd rfl h⟩)
  refine pf_Mw N (lo := 1) (n := 100001) (by decide) (by decide) (by decide) _ (fun c hc1 hc2 e2 => ⟨fun h => absurd h (by decide), fun _ => ?_⟩) (fun hn => ⟨fun _ => bad (fun h => hn h.2.1), fun h => absurd rfl h⟩)
  refine pf_Mw N (lo := 0) (n := 4) (by decide) (by decide) (by decide) _ (fun x _ hx e3 => ⟨fun h => absurd h (by decide), fun _ => ?_⟩) (fun hn => ⟨fun _ => bad (fun h => hn h.2.2), fun h => absurd rfl h⟩)
  subst e1 e2 e3
  obtain ⟨m1, m2, m3, m4, m5, m6, m7, m8⟩ := id hA
  unfold wp_Model_article_34 wp_Model_article_58
  rw [m4]
  refine ⟨fun _ => pk_le (Az A) 0 (fun hz => fun μ12 e12 => ?_) (fun hz => fun μ12 e12 => ?_), fun h => absurd h (by decide)⟩
  · have e39 : μ12 39 0 = 0 := by rw [e12, s2_same]
    rw [e39, nI_clamp (by omega)]
    refine ⟨fun _ => ⟨vp_in_nI hi (by decide), fun μ15 e15 => ⟨vp_in_nI hi (by decide), fun μ17 e17 => ?_⟩⟩, fun h => absurd rfl h⟩
    have fr : ∀ d, d ≠ 0 → d ≠ 1 → d ≠ 39 → μ17 d = μ d := fun d d0 d1 d2 => by rw [e17, s2_comp _ _ _ _ d1, e15, s2_comp _ _ _ _ d0, e12, s2_comp _ _ _ _ d2]
    refine h0 i c x hi hc1 (by omega) (by omega) rfl rfl rfl (by omega) μ17 (by rw [e17, s2_comp _ _ _ _ (by decide), e15, s2_comp _ _ _ _ (by decide)]; exact e39) ⟨fun a ha => ?_, fun j hj => repK_same (fun d d1 d2 => fr d (by omega) (by omega) (by omega)) (m2 j hj), ?_, ?_, ?_, ?_, fun r hr => ?_, ?_⟩
    · show μ17 0 a = nI (fup (AC A) i c a) ∧ μ17 1 a = nI (fup (AX A) i x a)
      by_cases e : a = i
      · subst e
        rw [fup_same, fup_same]
        exact ⟨by rw [e17, s2_comp _ _ _ _ (by decide), e15, s2_same], by rw [e17, s2_same]⟩
      · rw [fup_ne _ _ e, fup_ne _ _ e]
        exact ⟨by rw [e17, s2_comp _ _ _ _ (by decide), e15, s2_ne _ _ _ _ (Or.inr e), e12, s2_comp _ _ _ _ (by decide)]; exact (m1 a ha).1, by rw [e17, s2_ne _ _ _ _ (Or.inr e), e15, s2_comp _ _ _ _ (by decide), e12, s2_comp _ _ _ _ (by decide)]; exact (m1 a ha).2⟩
    · rw [fr 8 (by decide) (by decide) (by decide)]; exact m3
    · rw [fr 9 (by decide) (by decide) (by decide)]; exact m4
    · rw [fr 10 (by decide) (by decide) (by decide)]; exact m5
    · rw [fr 11 (by decide) (by decide) (by decide)]; exact m6
    · exact recS_same (A := A) (fun d hd => fr d (by omega) (by omega) (by omega)) (m7 r hr)
    · rw [fr 19 (by decide) (by decide) (by decide), fr 14 (by decide) (by decide) (by decide)]; exact m8
  · have e39 : μ12 39 0 = 2 := by rw [e12, s2_same]
    rw [e39]
    exact ⟨fun h => absurd h (by decide), fun _ => h2 ⟨rg_of (by omega) hi, rg_of hc1 hc2, rg_of (by omega) hx⟩ (by omega) μ12 e39 (moS_same (fun d hd => by rw [e12, s2_comp _ _ _ _ (by omega)]) hA)⟩
