/-! offer, member, run -/
theorem repK_at {μ w : St} {k : Nat} {O : Nat → Nat} (h : ∀ d, 2 ≤ d → d ≤ 6 → w d k = μ d k) (h7 : ∀ s, s < 4 → w 7 (4 * k + s) = μ 7 (4 * k + s)) (hK : repK μ k O) : repK w k O := by
  obtain ⟨k1, k2, k3, k4, k5, k6, k7⟩ := hK
  refine ⟨by rw [h 2 (by omega) (by omega)]; exact k1, by rw [h 3 (by omega) (by omega)]; exact k2, by rw [h 4 (by omega) (by omega)]; exact k3, by rw [h 5 (by omega) (by omega)]; exact k4, by rw [h 6 (by omega) (by omega)]; exact k5, fun s hs => by rw [h7 s hs]; exact k6 s hs, k7⟩
theorem recS_at {A : AS} {μ w : St} {r : Nat} (hr12 : r < 12) (h : ∀ d, 12 ≤ d → d ≤ 19 → w d = μ d) (h2 : ∀ d, 2 ≤ d → d ≤ 6 → ∀ k, k < 72 → w d k = μ d k) (h7 : ∀ k, k < 288 → w 7 k = μ 7 k) (hr : recS A μ r) : recS A w r := by
  obtain ⟨r1, r2, r3, r4, r5⟩ := hr
  refine ⟨by rw [h 12 (by omega) (by omega)]; exact r1, by rw [h 13 (by omega) (by omega)]; exact r2, by rw [h 14 (by omega) (by omega)]; exact r3, ?_, fun i hi => repK_at (fun d d1 d2 => h2 d d1 d2 _ (by omega)) (fun s hs => h7 _ (by omega)) (r5 i hi)⟩
  rw [h 15 (by omega) (by omega), h 16 (by omega) (by omega), h 17 (by omega) (by omega), h 18 (by omega) (by omega), h 19 (by omega) (by omega)]
  exact r4
def oup (Os : Nat → Nat → Nat) (i : Nat) (O : Nat → Nat) : Nat → Nat → Nat := fun j => if j = i then O else Os j
theorem oup_same (Os : Nat → Nat → Nat) (i : Nat) (O : Nat → Nat) : oup Os i O i = O := if_pos rfl
theorem oup_ne (Os : Nat → Nat → Nat) {i j : Nat} (O : Nat → Nat) (h : j ≠ i) : oup Os i O j = Os j := if_neg h
/-- the till with another offer i -/
def aOff (A : AS) (i : Nat) (O : Nat → Nat) : AS := (oup (AOs A) i O, A.2)
theorem ok_aOff {A : AS} (h : okS A) (h0 : Az A = 0) {i : Nat} {O : Nat → Nat} (hO : okO O) : okS (aOff A i O) := by
  obtain ⟨h1, hC, hX, hz, hb, hroom, hR, hrec⟩ := h
  refine ⟨fun j hj => ?_, hC, hX, hz, hb, ?_, hR, hrec⟩
  · show okO (oup (AOs A) i O j)
    unfold oup; split
    · exact hO
    · exact h1 j hj
  · show str (tN (oup (AOs A) i O) (Ab A) (Az A)) 18 ≤ 3000
    rw [h0]; exact room_0 _ _
theorem cl_aOff {A : AS} {θ β τ : St} {ω ω2 : Nat → St} {π : St} (hA : clS A θ β τ ω π) (hz : Az A = 0) {i : Nat} {O : Nat → Nat} (h1 : repO (ω2 i) O) (h2 : ∀ j, j ≠ i → ω2 j = ω j) : clS (aOff A i O) θ β τ ω2 π := by
  obtain ⟨a1, a2, a3, a4, a5⟩ := hA
  refine ⟨a1, a2, a3, fun j hj => ?_, ?_⟩
  · show repO (ω2 j) (oup (AOs A) i O j)
    by_cases e : j = i
    · subst e; rw [oup_same]; exact h1
    · rw [oup_ne _ _ e, h2 j e]; exact a4 j hj
  · rcases a5 with q | ⟨q1, q2⟩
    · exact Or.inl q
    · refine Or.inr ⟨q1, ?_⟩
      show repP π (Az A) (planP (oup (AOs A) i O) (AC A) (Ab A) (Az A))
      rw [hz] at q2 ⊢
      exact repP_0 q2
theorem mo_aOff {A : AS} {μ w : St} (hok : okS A) (hA : moS A μ) {i : Nat} {O : Nat → Nat} (hK : repK w (72 + i) O) (h0 : ∀ d, d < 20 → ¬ (2 ≤ d ∧ d ≤ 7) → w d = μ d) (h2 : ∀ d, 2 ≤ d → d ≤ 6 → ∀ k, k ≠ 72 + i → w d k = μ d k) (h7 : ∀ k, ¬ (4 * (72 + i) ≤ k ∧ k < 4 * (72 + i) + 4) → w 7 k = μ 7 k) : moS (aOff A i O) w := by
  obtain ⟨m1, m2, m3, m4, m5, m6, m7, m8⟩ := hA
  have hR := hok.hR
  refine ⟨?_, fun j hj => ?_, ?_, ?_, ?_, ?_, fun r hr => ?_, ?_⟩
  · rw [h0 0 (by omega) (by omega), h0 1 (by omega) (by omega)]; exact m1
  · show repK w (72 + j) (oup (AOs A) i O j)
    by_cases e : j = i
    · subst e; rw [oup_same]; exact hK
    · rw [oup_ne _ _ e]
      exact repK_at (fun d d1 d2 => h2 d d1 d2 _ (by omega)) (fun s hs => h7 _ (by omega)) (m2 j hj)
  · rw [h0 8 (by omega) (by omega)]; exact m3
  · rw [h0 9 (by omega) (by omega)]; exact m4
  · rw [h0 10 (by omega) (by omega)]; exact m5
  · rw [h0 11 (by omega) (by omega)]; exact m6
  · have hr2 : r < AR A := hr
    exact recS_at (A := A) (by omega) (fun d d1 d2 => h0 d (by omega) (by omega)) (fun d d1 d2 k hk => h2 d d1 d2 k (by omega)) (fun k hk => h7 k (by omega)) (m7 r hr)
  · rw [h0 19 (by omega) (by omega), h0 14 (by omega) (by omega)]; exact m8
def upO (O : Nat → Nat) (k n v m : Nat) : Nat → Nat := fun j => if j = 0 then k else if j = 1 then n else if j = 2 then v else if j = 3 then m else O j
theorem upO_hi (O : Nat → Nat) (k n v m s : Nat) : upO O k n v m (5 + s) = O (5 + s) := by
  unfold upO
  rw [if_neg (by omega), if_neg (by omega), if_neg (by omega), if_neg (by omega)]
def gOff (x1 x2 x3 x4 x5 : Int32) : Prop := rg 0 6 x1 ∧ rg 0 4 x2 ∧ rg 2 5 x3 ∧ rg 0 400001 x4 ∧ rg 0 6 x5
theorem clT_off {A : AS} {θ β τ : St} {ω : Nat → St} {π : St} (hA : clS A θ β τ ω π) (N : Nat) (x1 x2 x3 x4 x5 : Int32) (post : Int32 → (Nat → St) → Prop)
    (h1 : ¬ gOff x1 x2 x3 x4 x5 → post 1 ω) (h2 : gOff x1 x2 x3 x4 x5 → Az A ≠ 0 → post 2 ω)
    (h0 : ∀ i k n v m, i < 6 → k ≤ 3 → 2 ≤ n → n ≤ 4 → v ≤ 400000 → m ≤ 5 → x1 = nI i → x2 = nI k → x3 = nI n → x4 = nI v → x5 = nI m → Az A = 0 → ∀ ω2, clS (aOff A i (upO (AOs A i) k n v m)) θ β τ ω2 π → okO (upO (AOs A i) k n v m) → post 0 ω2) : wp_Law_offer N θ β τ ω x1 x2 x3 x4 x5 post := by
  obtain ⟨a1, a2, a3, a4, a5⟩ := id hA
  unfold wp_Law_offer wp_Till_offer
  refine pf_reqOff N _ _ (fun i hi e1 => ?_) (fun hn => Or.inl ⟨rfl, h1 (fun h => hn h.1)⟩)
  refine pf_TwA N (lo := 0) (n := 4) (by decide) (by decide) (by decide) _ _ (fun k _ hk e2 => ?_) (fun hn => Or.inl ⟨rfl, h1 (fun h => hn h.2.1)⟩)
  refine pf_TwA N (lo := 2) (n := 5) (by decide) (by decide) (by decide) _ _ (fun n hn1 hn2 e3 => ?_) (fun hn => Or.inl ⟨rfl, h1 (fun h => hn h.2.2.1)⟩)
  refine pf_TwA N (lo := 0) (n := 400001) (by decide) (by decide) (by decide) _ _ (fun v _ hv e4 => ?_) (fun hn => Or.inl ⟨rfl, h1 (fun h => hn h.2.2.2.1)⟩)
  refine pf_TwA N (lo := 0) (n := 6) (by decide) (by decide) (by decide) _ _ (fun m _ hm e5 => ?_) (fun hn => Or.inl ⟨rfl, h1 (fun h => hn h.2.2.2.2)⟩)
  subst e1 e2 e3 e4 e5
  unfold wp_Till_requireEmptyBasket
  rw [a2.2.1]
  have hz10 := a2.1
  refine pk_eq (Az A) 0 (fun hz => ?_) (fun hz => Or.inr ⟨rfl, h2 ⟨rg_of (by omega) hi, rg_of (by omega) hk, rg_of hn1 hn2, rg_of (by omega) hv, rg_of (by omega) hm⟩ hz⟩)
  rw [nI_clamp (by omega)]
  refine ⟨vp_in_nI hi (by decide), fun ω22 e22 => fun ω23 e23 => fun ω24 e24 => fun ω25 e25 => ?_⟩
  have ei : ω25 i = s2 (s2 (s2 (s2 (ω i) 0 0 (nI k)) 1 0 (nI n)) 2 0 (nI v)) 3 0 (nI m) := by
    rw [e25, up_same, e24, up_same, e23, up_same, e22, up_same]
  obtain ⟨o1, o2, o3⟩ := a4 i hi
  have hO2 : okO (upO (AOs A i) k n v m) := by
    obtain ⟨p1, p2, p3, p4, p5, p6, p7⟩ := o3
    exact ⟨by show k ≤ 3; omega, hn1, by show n ≤ 4; omega, by show v ≤ 400000; omega, by show m ≤ 5; omega, p6, fun s hs => by rw [upO_hi]; exact p7 s hs⟩
  refine h0 i k n v m hi (by omega) hn1 (by omega) (by omega) (by omega) rfl rfl rfl rfl rfl hz ω25 (cl_aOff hA hz ⟨fun j hj => ?_, fun s hs => ?_, hO2⟩ (fun j hj => by rw [e25, up_ne _ _ hj, e24, up_ne _ _ hj, e23, up_ne _ _ hj, e22, up_ne _ _ hj])) hO2
  · rw [ei]
    rcases (show j = 0 ∨ j = 1 ∨ j = 2 ∨ j = 3 ∨ j = 4 by omega) with rfl | rfl | rfl | rfl | rfl
    · rw [s2_comp _ _ _ _ (by decide), s2_comp _ _ _ _ (by decide), s2_comp _ _ _ _ (by decide), s2_same]; rfl
    · rw [s2_comp _ _ _ _ (by decide), s2_comp _ _ _ _ (by decide), s2_same]; rfl
    · rw [s2_comp _ _ _ _ (by decide), s2_same]; rfl
    · rw [s2_same]; rfl
    · rw [s2_comp _ _ _ _ (by decide), s2_comp _ _ _ _ (by decide), s2_comp _ _ _ _ (by decide), s2_comp _ _ _ _ (by decide)]; exact o1 4 (by omega)
  · rw [ei, s2_comp _ _ _ _ (by decide), s2_comp _ _ _ _ (by decide), s2_comp _ _ _ _ (by decide), s2_comp _ _ _ _ (by decide), o2 s hs]
    show nI (AOs A i (5 + s)) = nI (if 5 + s = 0 then k else if 5 + s = 1 then n else if 5 + s = 2 then v else if 5 + s = 3 then m else AOs A i (5 + s))
    rw [if_neg (by omega), if_neg (by omega), if_neg (by omega), if_neg (by omega)]
theorem i72 (i : Nat) : (72 : Int32) + nI i = nI (72 + i) := by rw [show (72 : Int32) = nI 72 from rfl, nI_add]
theorem moT_off {A : AS} {μ : St} (hok : okS A) (hA : moS A μ) (N : Nat) (x1 x2 x3 x4 x5 : Int32) (post : St → Prop)
    (h1 : ¬ gOff x1 x2 x3 x4 x5 → ∀ u, u 39 0 = 1 → moS A u → post u) (h2 : gOff x1 x2 x3 x4 x5 → Az A ≠ 0 → ∀ u, u 39 0 = 2 → moS A u → post u)
    (h0 : ∀ i k n v m, i < 6 → k ≤ 3 → 2 ≤ n → n ≤ 4 → v ≤ 400000 → m ≤ 5 → x1 = nI i → x2 = nI k → x3 = nI n → x4 = nI v → x5 = nI m → Az A = 0 → ∀ u, u 39 0 = 0 → moS (aOff A i (upO (AOs A i) k n v m)) u → post u) : wp_Model_offer N μ x1 x2 x3 x4 x5 post := by
  have hz10 := hok.hz
  have bad : ¬ gOff x1 x2 x3 x4 x5 → wp_Model_offer_52 N post (wp_Model_offer_53 N post) x1 x2 x3 x4 x5 μ := by
    intro hn
    unfold wp_Model_offer_52 wp_Model_offer_53 wp_Model_offer_77
    refine ⟨fun h => absurd rfl h, fun _ => fun μ12 e12 => ?_⟩
    have e39 : μ12 39 0 = 1 := by rw [e12, s2_same]
    rw [e39]
    exact ⟨fun h => absurd h (by decide), fun _ => h1 hn μ12 e39 (moS_same (fun d hd => by rw [e12, s2_comp _ _ _ _ (by omega)]) hA)⟩
  unfold wp_Model_offer
  refine pf_Mw N (lo := 0) (n := 6) (by decide) (by decide) (by decide) _ (fun i _ hi e1 => ⟨fun h => absurd h (by decide), fun _ => ?_⟩) (fun hn => ⟨fun _ => bad (fun h => hn h.1), fun h => absurd rfl h⟩)
  refine pf_Mw N (lo := 0) (n := 4) (by decide) (by decide) (by decide) _ (fun k _ hk e2 => ⟨fun h => absurd h (by decide), fun _ => ?_⟩) (fun hn => ⟨fun _ => bad (fun h => hn h.2.1), fun h => absurd rfl h⟩)
  refine pf_Mw N (lo := 2) (n := 5) (by decide) (by decide) (by decide) _ (fun n hn1 hn2 e3 => ⟨fun h => absurd h (by decide), fun _ => ?_⟩) (fun hn => ⟨fun _ => bad (fun h => hn h.2.2.1), fun h => absurd rfl h⟩)
  refine pf_Mw N (lo := 0) (n := 400001) (by decide) (by decide) (by decide) _ (fun v _ hv e4 => ⟨fun h => absurd h (by decide), fun _ => ?_⟩) (fun hn => ⟨fun _ => bad (fun h => hn h.2.2.2.1), fun h => absurd rfl h⟩)
  refine pf_Mw N (lo := 0) (n := 6) (by decide) (by decide) (by decide) _ (fun m _ hm e5 => ⟨fun h => absurd h (by decide), fun _ => ?_⟩) (fun hn => ⟨fun _ => bad (fun h => hn h.2.2.2.2), fun h => absurd rfl h⟩)
  subst e1 e2 e3 e4 e5
  have m4 := hA.2.2.2.1
  unfold wp_Model_offer_53 wp_Model_offer_77
  rw [m4]
  refine ⟨fun _ => pk_le (Az A) 0 (fun hz => fun μ12 e12 => ?_) (fun hz => fun μ12 e12 => ?_), fun h => absurd h (by decide)⟩
  · have e39 : μ12 39 0 = 0 := by rw [e12, s2_same]
    rw [e39, i72, nI_clamp (by omega)]
    have hin : vp_in (nI (72 + i)) 78 := vp_in_nI (by omega) (by decide)
    refine ⟨fun _ => ⟨hin, fun μ21 e21 => ⟨hin, fun μ23 e23 => ⟨hin, fun μ25 e25 => ⟨hin, fun μ27 e27 => ?_⟩⟩⟩⟩, fun h => absurd rfl h⟩
    obtain ⟨k1, k2, k3, k4, k5, k6, k7⟩ := hA.2.1 i hi
    have hO2 : okO (upO (AOs A i) k n v m) := by
      obtain ⟨p1, p2, p3, p4, p5, p6, p7⟩ := k7
      exact ⟨by show k ≤ 3; omega, hn1, by show n ≤ 4; omega, by show v ≤ 400000; omega, by show m ≤ 5; omega, p6, fun s hs => by rw [upO_hi]; exact p7 s hs⟩
    have fr : ∀ d, d ≠ 2 → d ≠ 3 → d ≠ 4 → d ≠ 5 → d ≠ 39 → μ27 d = μ d := fun d d2 d3 d4 d5 d39 => by rw [e27, s2_comp _ _ _ _ d5, e25, s2_comp _ _ _ _ d4, e23, s2_comp _ _ _ _ d3, e21, s2_comp _ _ _ _ d2, e12, s2_comp _ _ _ _ d39]
    refine h0 i k n v m hi (by omega) hn1 (by omega) (by omega) (by omega) rfl rfl rfl rfl rfl (by omega) μ27 (by rw [e27, s2_comp _ _ _ _ (by decide), e25, s2_comp _ _ _ _ (by decide), e23, s2_comp _ _ _ _ (by decide), e21, s2_comp _ _ _ _ (by decide)]; exact e39) (mo_aOff hok hA ⟨?_, ?_, ?_, ?_, ?_, fun s hs => ?_, hO2⟩ (fun d hd hnd => fr d (by omega) (by omega) (by omega) (by omega) (by omega)) (fun d d1 d2 q hq => ?_) (fun q _ => by rw [fr 7 (by decide) (by decide) (by decide) (by decide) (by decide)]))
    · rw [e27, s2_comp _ _ _ _ (by decide), e25, s2_comp _ _ _ _ (by decide), e23, s2_comp _ _ _ _ (by decide), e21, s2_same]; rfl
    · rw [e27, s2_comp _ _ _ _ (by decide), e25, s2_comp _ _ _ _ (by decide), e23, s2_same]; rfl
    · rw [e27, s2_comp _ _ _ _ (by decide), e25, s2_same]; rfl
    · rw [e27, s2_same]; rfl
    · rw [fr 6 (by decide) (by decide) (by decide) (by decide) (by decide)]; exact k5
    · rw [fr 7 (by decide) (by decide) (by decide) (by decide) (by decide), k6 s hs]
      show nI (AOs A i (5 + s)) = nI (if 5 + s = 0 then k else if 5 + s = 1 then n else if 5 + s = 2 then v else if 5 + s = 3 then m else AOs A i (5 + s))
      rw [if_neg (by omega), if_neg (by omega), if_neg (by omega), if_neg (by omega)]
    · rw [e27, s2_ne _ _ _ _ (Or.inr hq), e25, s2_ne _ _ _ _ (Or.inr hq), e23, s2_ne _ _ _ _ (Or.inr hq), e21, s2_ne _ _ _ _ (Or.inr hq), e12, s2_comp _ _ _ _ (by omega)]
  · have e39 : μ12 39 0 = 2 := by rw [e12, s2_same]
    rw [e39]
    exact ⟨fun h => absurd h (by decide), fun _ => h2 ⟨rg_of (by omega) hi, rg_of (by omega) hk, rg_of hn1 hn2, rg_of (by omega) hv, rg_of (by omega) hm⟩ (by omega) μ12 e39 (moS_same (fun d hd => by rw [e12, s2_comp _ _ _ _ (by omega)]) hA)⟩
/-! member -/
def mbx (m a : Nat) (x4 : Int32) : Int32 := if x4 = 0 then nI m &&& ((1 <<< (nI a &&& 31)) ^^^ (-1)) else nI m ||| (1 <<< (nI a &&& 31))
def mb (m a : Nat) (x4 : Int32) : Nat := (mbx m a x4).toBitVec.toNat
theorem nI_self (x : Int32) : x = nI x.toBitVec.toNat := by
  refine Int32.toBitVec_inj.mp ?_
  show x.toBitVec = (Int32.ofNat x.toBitVec.toNat).toBitVec
  rw [Int32.toBitVec_ofNat', BitVec.ofNat_toNat, BitVec.setWidth_eq]
theorem mb_eq (m a : Nat) (x4 : Int32) : mbx m a x4 = nI (mb m a x4) := nI_self _
theorem mb_lt {m a : Nat} (hm : m < 4096) (ha : a < 12) (x4 : Int32) : mb m a x4 < 4096 := by
  unfold mb mbx
  split
  · rw [Int32.toBitVec_and, BitVec.toNat_and, pk_tn (by omega)]
    exact Nat.lt_of_le_of_lt Nat.and_le_left hm
  · have hp : 2 ^ a ≤ 2 ^ 11 := Nat.pow_le_pow_right (by decide) (by omega)
    rw [show (1 : Int32) = nI 1 from rfl, pk_shlN _ a (sh_a a ha) (by omega), Nat.one_mul, orN, pk_tn (by
      have := Nat.or_lt_two_pow (x := m) (y := 2 ^ a) (n := 12) (by omega) (by omega)
      omega)]
    exact Nat.or_lt_two_pow (n := 12) (by omega) (by omega)
def upS (O : Nat → Nat) (s v : Nat) : Nat → Nat := fun j => if j = 5 + s then v else O j
theorem ok_upS {O : Nat → Nat} (h : okO O) {s v : Nat} (hs : s < 4) (hv : v < 4096) : okO (upS O s v) := by
  obtain ⟨p1, p2, p3, p4, p5, p6, p7⟩ := h
  unfold okO upS
  rw [if_neg (by omega), if_neg (by omega), if_neg (by omega), if_neg (by omega), if_neg (by omega)]
  refine ⟨p1, p2, p3, p4, p5, p6, fun q hq => ?_⟩
  split
  · exact hv
  · exact p7 q hq
def gMem (x1 x2 x3 : Int32) : Prop := rg 0 6 x1 ∧ rg 0 4 x2 ∧ rg 0 12 x3
theorem clT_mem {A : AS} {θ β τ : St} {ω : Nat → St} {π : St} (hA : clS A θ β τ ω π) (N : Nat) (x1 x2 x3 x4 : Int32) (post : Int32 → (Nat → St) → Prop)
    (h1 : ¬ gMem x1 x2 x3 → post 1 ω) (h2 : gMem x1 x2 x3 → Az A ≠ 0 → post 2 ω)
    (h0 : ∀ i s a, i < 6 → s < 4 → a < 12 → x1 = nI i → x2 = nI s → x3 = nI a → Az A = 0 → ∀ ω2, clS (aOff A i (upS (AOs A i) s (mb (AOs A i (5 + s)) a x4))) θ β τ ω2 π → okO (upS (AOs A i) s (mb (AOs A i (5 + s)) a x4)) → post 0 ω2) : wp_Law_member N θ β τ ω x1 x2 x3 x4 post := by
  obtain ⟨a1, a2, a3, a4, a5⟩ := id hA
  unfold wp_Law_member wp_Till_member
  refine pf_reqOff N _ _ (fun i hi e1 => ?_) (fun hn => Or.inl ⟨rfl, h1 (fun h => hn h.1)⟩)
  refine pf_TwA N (lo := 0) (n := 4) (by decide) (by decide) (by decide) _ _ (fun s _ hs e2 => ?_) (fun hn => Or.inl ⟨rfl, h1 (fun h => hn h.2.1)⟩)
  refine pf_reqArt N _ _ (fun a ha e3 => ?_) (fun hn => Or.inl ⟨rfl, h1 (fun h => hn h.2.2)⟩)
  subst e1 e2 e3
  unfold wp_Till_requireEmptyBasket
  rw [a2.2.1]
  have hz10 := a2.1
  refine pk_eq (Az A) 0 (fun hz => ?_) (fun hz => Or.inr ⟨rfl, h2 ⟨rg_of (by omega) hi, rg_of (by omega) hs, rg_of (by omega) ha⟩ hz⟩)
  rw [nI_clamp (by omega)]
  obtain ⟨o1, o2, o3⟩ := a4 i hi
  have hmb := mb_lt (o3.2.2.2.2.2.2 s hs) ha x4
  have hO2 := ok_upS o3 hs hmb
  have fin : ∀ y : Int32, y = mbx (AOs A i (5 + s)) a x4 → wp_Offer_put_37 N (fun u12 => (∀ ω14, ω14 = va_up ω i u12 → post 0 ω14)) y (nI s) (ω i) := by
    intro y ey
    unfold wp_Offer_put_37
    rw [nI_clamp (by omega)]
    refine ⟨vp_in_nI hs (by decide), fun ω5 e5 => fun ω14 e14 => ?_⟩
    refine h0 i s a hi hs ha rfl rfl rfl hz ω14 (cl_aOff hA hz ⟨fun j hj => ?_, fun q hq => ?_, hO2⟩ (fun j hj => by rw [e14, up_ne _ _ hj])) hO2
    · rw [e14, up_same, e5, s2_comp _ _ _ _ (by omega), o1 j hj]
      unfold upS
      rw [if_neg (by omega)]
    · rw [e14, up_same, e5]
      unfold upS
      by_cases e : q = s
      · subst e; rw [s2_same, if_pos rfl, ey, mb_eq]
      · rw [s2_ne _ _ _ _ (Or.inr e), if_neg (by omega)]; exact o2 q hq
  refine ⟨vp_in_nI hi (by decide), ?_⟩
  unfold wp_Offer_put
  rw [nI_clamp (by omega), o2 s hs]
  refine ⟨fun h => ⟨vp_in_nI hs (by decide), fin _ ?_⟩, fun h => ⟨vp_in_nI hs (by decide), fin _ ?_⟩⟩
  · unfold mbx; rw [if_pos h]
  · unfold mbx; rw [if_neg h]
theorem moT_mem {A : AS} {μ : St} (hok : okS A) (hA : moS A μ) (N : Nat) (x1 x2 x3 x4 : Int32) (post : St → Prop)
    (h1 : ¬ gMem x1 x2 x3 → ∀ u, u 39 0 = 1 → moS A u → post u) (h2 : gMem x1 x2 x3 → Az A ≠ 0 → ∀ u, u 39 0 = 2 → moS A u → post u)
    (h0 : ∀ i s a, i < 6 → s < 4 → a < 12 → x1 = nI i → x2 = nI s → x3 = nI a → Az A = 0 → ∀ u, u 39 0 = 0 → moS (aOff A i (upS (AOs A i) s (mb (AOs A i (5 + s)) a x4))) u → post u) : wp_Model_member N μ x1 x2 x3 x4 post := by
  have hz10 := hok.hz
  have bad : ¬ gMem x1 x2 x3 → wp_Model_member_32 N post (wp_Model_member_33 N post) x1 x2 x3 x4 μ := by
    intro hn
    unfold wp_Model_member_32 wp_Model_member_33 wp_Model_member_57
    refine ⟨fun h => absurd rfl h, fun _ => fun μ12 e12 => ?_⟩
    have e39 : μ12 39 0 = 1 := by rw [e12, s2_same]
    rw [e39]
    exact ⟨fun h => absurd h (by decide), fun _ => h1 hn μ12 e39 (moS_same (fun d hd => by rw [e12, s2_comp _ _ _ _ (by omega)]) hA)⟩
  unfold wp_Model_member
  refine pf_Mw N (lo := 0) (n := 6) (by decide) (by decide) (by decide) _ (fun i _ hi e1 => ⟨fun h => absurd h (by decide), fun _ => ?_⟩) (fun hn => ⟨fun _ => bad (fun h => hn h.1), fun h => absurd rfl h⟩)
  refine pf_Mw N (lo := 0) (n := 4) (by decide) (by decide) (by decide) _ (fun s _ hs e2 => ⟨fun h => absurd h (by decide), fun _ => ?_⟩) (fun hn => ⟨fun _ => bad (fun h => hn h.2.1), fun h => absurd rfl h⟩)
  refine pf_Mw N (lo := 0) (n := 12) (by decide) (by decide) (by decide) _ (fun a _ ha e3 => ⟨fun h => absurd h (by decide), fun _ => ?_⟩) (fun hn => ⟨fun _ => bad (fun h => hn h.2.2), fun h => absurd rfl h⟩)
  subst e1 e2 e3
  have m4 := hA.2.2.2.1
  unfold wp_Model_member_33 wp_Model_member_57
  rw [m4]
  refine ⟨fun _ => pk_le (Az A) 0 (fun hz => fun μ12 e12 => ?_) (fun hz => fun μ12 e12 => ?_), fun h => absurd h (by decide)⟩
  · have e39 : μ12 39 0 = 0 := by rw [e12, s2_same]
    obtain ⟨k1, k2, k3, k4, k5, k6, k7⟩ := hA.2.1 i hi
    have hmb := mb_lt (k7.2.2.2.2.2.2 s hs) ha x4
    have hO2 := ok_upS k7 hs hmb
    have e7 : μ12 7 (4 * (72 + i) + s) = nI (AOs A i (5 + s)) := by rw [e12, s2_comp _ _ _ _ (by decide)]; exact k6 s hs
    have hin : vp_in (nI (4 * (72 + i) + s)) 312 := vp_in_nI (by omega) (by decide)
    rw [e39, i72, show (4 : Int32) = nI 4 from rfl, pk_mul, nI_add, nI_clamp (by omega), e7]
    have fin : ∀ y : Int32, y = mbx (AOs A i (5 + s)) a x4 → wp_Model_member_116 N post y (nI (4 * (72 + i) + s)) μ12 := by
      intro y ey
      unfold wp_Model_member_116
      rw [nI_clamp (by omega)]
      refine ⟨hin, fun μ18 e18 => ?_⟩
      have fr : ∀ d, d ≠ 7 → d ≠ 39 → μ18 d = μ d := fun d d7 d39 => by rw [e18, s2_comp _ _ _ _ d7, e12, s2_comp _ _ _ _ d39]
      refine h0 i s a hi hs ha rfl rfl rfl (by omega) μ18 (by rw [e18, s2_comp _ _ _ _ (by decide)]; exact e39) (mo_aOff hok hA ⟨?_, ?_, ?_, ?_, ?_, fun q hq => ?_, hO2⟩ (fun d hd hnd => fr d (by omega) (by omega)) (fun d d1 d2 q hq => by rw [fr d (by omega) (by omega)]) (fun q hq => by rw [e18, s2_ne _ _ _ _ (Or.inr (by omega)), e12, s2_comp _ _ _ _ (by decide)]))
      · rw [fr 2 (by decide) (by decide), k1]; unfold upS; rw [if_neg (by omega)]
      · rw [fr 3 (by decide) (by decide), k2]; unfold upS; rw [if_neg (by omega)]
      · rw [fr 4 (by decide) (by decide), k3]; unfold upS; rw [if_neg (by omega)]
      · rw [fr 5 (by decide) (by decide), k4]; unfold upS; rw [if_neg (by omega)]
      · rw [fr 6 (by decide) (by decide), k5]; unfold upS; rw [if_neg (by omega)]
      · rw [e18]
        unfold upS
        by_cases e : q = s
        · subst e; rw [s2_same, if_pos rfl, ey, mb_eq]
        · rw [s2_ne _ _ _ _ (Or.inr (by omega)), if_neg (by omega), e12, s2_comp _ _ _ _ (by decide)]; exact k6 q hq
    refine ⟨fun _ => ⟨fun h => ⟨hin, fin _ ?_⟩, fun h => ⟨hin, fin _ ?_⟩⟩, fun h => absurd rfl h⟩
    · unfold mbx; rw [if_pos h]
    · unfold mbx; rw [if_neg h]
  · have e39 : μ12 39 0 = 2 := by rw [e12, s2_same]
    rw [e39]
    exact ⟨fun h => absurd h (by decide), fun _ => h2 ⟨rg_of (by omega) hi, rg_of (by omega) hs, rg_of (by omega) ha⟩ (by omega) μ12 e39 (moS_same (fun d hd => by rw [e12, s2_comp _ _ _ _ (by omega)]) hA)⟩
