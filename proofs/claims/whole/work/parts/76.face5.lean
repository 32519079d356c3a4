/-! total, unit, tax, tryOffer -/
theorem pf_findPlan (N : Nat) (hN : 100001 ≤ N) {A : AS} {θ β τ : St} {ω : Nat → St} {π : St} (κ υ : St) (ρ : Nat → Int64) (hok : okS A) (hA : clS A θ β τ ω π) {st : Nat} (hS : repS υ st) (hst : st + 6 < 2 ^ 30) (post : (St × St × St × St × (Nat → Int64)) → Prop)
    (hp : ∀ θ2 κ2 υ2 π2 ρ2 st2, st2 ≤ st + 6 → repS υ2 st2 → clS A θ2 β τ ω π2 → repP π2 (Az A) (planP (AOs A) (AC A) (Ab A) (Az A)) → post (θ2, κ2, υ2, π2, ρ2)) : wp_Till_findPlan N θ β τ ω κ υ π ρ post := by
  obtain ⟨a1, a2, a3, a4, a5⟩ := id hA
  unfold wp_Till_findPlan
  rcases a5 with q | ⟨q1, q2⟩
  · rw [q]
    refine ⟨fun h => absurd rfl h, fun _ => ?_⟩
    refine pf_find N hN ρ (C := AC A) (b := Ab A) (z := Az A) a4 (fun a ha => (a3 a ha).1) hok.hC a2 hok.hroom hS hst (fun κ2 υ2 π2 ρ2 => ∀ θ8, θ8 = s2 θ 7 0 1 → post (θ8, κ2, υ2, π2, ρ2)) (fun κ2 υ2 st2 π2 ρ2 h1 h2 h3 => fun θ8 e8 => ?_)
    exact hp θ8 κ2 υ2 π2 ρ2 st2 h1 h2 ⟨by rw [e8, s2_comp _ _ _ _ (by decide)]; exact a1, a2, by rw [e8, s2_comp _ _ _ _ (by decide)]; exact a3, a4, Or.inr ⟨by rw [e8, s2_same], h3⟩⟩ h3
  · rw [q1]
    exact ⟨fun _ => hp θ κ υ π ρ st (by omega) hS hA q2, fun h => absurd h (by decide)⟩
/-- what total answers -/
def vTot (A : AS) (x : Nat) : Int32 := if x = 0 then nI (TL (AOs A) (AC A) (Ab A) (Az A)) else if x = 1 then nI (bp (AC A) (Ab A) (Az A)) else nI (psn (planP (AOs A) (AC A) (Ab A) (Az A)))
theorem clT_total {A : AS} {θ β τ : St} {ω : Nat → St} {π : St} (κ υ : St) (ρ ο : Nat → Int64) (hok : okS A) (hA : clS A θ β τ ω π) (N : Nat) (hN : 100001 ≤ N) {st : Nat} (hS : repS υ st) (hst : st + 6 < 2 ^ 30) (x1 : Int32) (post : Int32 → (St × St × St × St × (Nat → Int64) × (Nat → Int64)) → Prop)
    (h1 : ¬ rg 0 3 x1 → post 1 (θ, κ, υ, π, ρ, ο))
    (h0 : ∀ x, x < 3 → x1 = nI x → ∀ θ2 κ2 υ2 π2 ρ2 ο2 st2, st2 ≤ st + 6 → repS υ2 st2 → clS A θ2 β τ ω π2 → ο2 0 = Int32.toInt64 (vTot A x) → post 0 (θ2, κ2, υ2, π2, ρ2, ο2)) : wp_Law_total N θ β τ ω κ υ π ρ ο x1 post := by
  obtain ⟨a1, a2, a3, a4, a5⟩ := id hA
  unfold wp_Law_total wp_Till_total
  have hb : ∀ i, i < Az A → Ab A i < 12 := hok.hb
  refine pf_TwA N (lo := 0) (n := 3) (by decide) (by decide) (by decide) _ _ (fun x _ hx e1 => ?_) (fun hn => ⟨rfl, h1 hn⟩)
  subst e1
  have fin : ∀ (v : Int32) (θ2 κ2 υ2 π2 : St) (ρ2 : Nat → Int64) (st2 : Nat), st2 ≤ st + 6 → repS υ2 st2 → clS A θ2 β τ ω π2 → v = vTot A x → (vp_in 0 1 ∧ (∀ ο4, ο4 = vp_updL ο (Int32.toNatClampNeg 0) (Int32.toInt64 v) → post 0 (θ2, κ2, υ2, π2, ρ2, ο4))) := by
    intro v θ2 κ2 υ2 π2 ρ2 st2 g1 g2 g3 ev
    refine ⟨vp_in_nI (n := 0) (by decide) (by decide), fun ο4 e4 => h0 x hx rfl θ2 κ2 υ2 π2 ρ2 ο4 st2 g1 g2 g3 ?_⟩
    rw [e4, ev]
    exact upL_same ..
  refine ⟨fun hne => ?_, fun heq => ?_⟩
  · have hx1 : x ≠ 1 := fun e => hne (by rw [e]; rfl)
    refine pf_findPlan N hN κ υ ρ hok hA hS hst _ (fun θ2 κ2 υ2 π2 ρ2 st2 g1 g2 g3 g4 => ⟨fun hne0 => ?_, fun heq0 => ?_⟩)
    · refine fin _ θ2 κ2 υ2 π2 ρ2 st2 g1 g2 g3 ?_
      have hx0 : x ≠ 0 := fun e => hne0 (by rw [e]; rfl)
      unfold vTot
      rw [if_neg hx0, if_neg hx1]; exact g4.2
    · have hx0 : x = 0 := (eqL (n := x) (m := 0) (by omega) (by decide)).mp heq0
      refine pf_paidIn N (by omega) ρ2 a2 (Y := psY (planP (AOs A) (AC A) (Ab A) (Az A))) (fun j hj => (g4.1 j hj).2.2.1) _ ?_
      refine fin _ θ2 κ2 υ2 π2 ρ2 st2 g1 g2 g3 ?_
      unfold vTot
      rw [if_pos hx0, (planP_ok hok.hO hok.hC hok.hz hb).1]
  · have hx1 : x = 1 := (eqL (n := x) (m := 1) (by omega) (by decide)).mp heq
    refine pf_priceIn N (by omega) a2.1 a2.2.1 a2.2.2 (fun a ha => (a3 a ha).1) _ ?_
    refine fin _ θ κ υ π ρ st (by omega) hS hA ?_
    unfold vTot
    rw [if_neg (by omega), if_pos hx1]
theorem moT_total {A : AS} {μ : St} (hok : okS A) (hA : moS A μ) (N : Nat) (hN : 100001 ≤ N) (x1 : Int32) (post : Int32 → St → Prop)
    (h1 : ¬ rg 0 3 x1 → ∀ v u, u 39 0 = 1 → moS A u → post v u)
    (h0 : ∀ x, x < 3 → x1 = nI x → ∀ u, u 39 0 = 0 → moS A u → post (vTot A x) u) : wp_Model_total N μ x1 post := by
  unfold wp_Model_total wp_Model_total_15
  refine pf_Mw N (lo := 0) (n := 3) (by decide) (by decide) (by decide) _ (fun x _ hx e1 => ⟨fun h => absurd h (by decide), fun _ => fun μ4 e4 => ?_⟩) (fun hn => ⟨fun _ => fun μ4 e4 => ?_, fun h => absurd rfl h⟩)
  · subst e1
    have e39 : μ4 39 0 = 0 := by rw [e4, s2_same]
    have hA4 : moS A μ4 := moS_same (fun d hd => by rw [e4, s2_comp _ _ _ _ (by omega)]) hA
    rw [e39]
    refine ⟨fun _ => pf_takeBasket N (by omega) hok hA4 _ (fun u6 f6 hX => ⟨fun hne0 => ?_, fun heq0 => ?_⟩), fun h => absurd rfl h⟩
    · have hx0 : x ≠ 0 := fun e => hne0 (by rw [e]; rfl)
      have loop : ∀ (n i : Nat), i ≤ Az A → Az A - i < n → wp_Model_total_44 N post n (nI x) (nI (bp (AC A) (Ab A) i)) (nI i) u6 := by
        intro n
        induction n with
        | zero => intro i _ h; omega
        | succ n ih =>
          intro i hi hn
          have hz := hok.hz
          rw [wp_Model_total_44, hX.2.1]
          refine pk_le (Az A) i (fun hq => ⟨fun hne1 => ?_, fun heq1 => ?_⟩) (fun hq => ?_)
          · have hx1 : x ≠ 1 := fun e => hne1 (by rw [e]; rfl)
            refine pf_plan N hN hX hok.hC hok.hroom _ (fun u fu hQ => ?_)
            have ev : u 38 0 = vTot A x := by
              unfold vTot
              rw [if_neg hx0, if_neg hx1]; exact hQ.2
            rw [ev]
            exact h0 x hx rfl u (by rw [fu 39 (by omega), f6 39 (by omega)]; exact e39) (moS_same (fun d hd => by rw [fu d (by omega), f6 d (by omega)]) hA4)
          · have hx1 : x = 1 := (eqL (n := x) (m := 1) (by omega) (by decide)).mp heq1
            have : i = Az A := by omega
            rw [this]
            have ev : nI (bp (AC A) (Ab A) (Az A)) = vTot A x := by
              unfold vTot
              rw [if_neg hx0, if_pos hx1]
            rw [ev]
            exact h0 x hx rfl u6 (by rw [f6 39 (by omega)]; exact e39) (moS_same (fun d hd => f6 d (by omega)) hA4)
          · rw [nI_clamp (by omega), (hX.2.2.2 i hq).2.2, nI_add, nI_1]
            exact ⟨vp_in_nI (by omega) (by decide), ih (i + 1) (by omega) (by omega)⟩
      exact loop N 0 (by omega) (by have := hok.hz; omega)
    · have hx0 : x = 0 := (eqL (n := x) (m := 0) (by omega) (by decide)).mp heq0
      refine pf_Mleast N hN hX hok.hC hok.hroom _ (fun u fu => ?_)
      have ev : nI (TL (AOs A) (AC A) (Ab A) (Az A)) = vTot A x := by
        unfold vTot
        rw [if_pos hx0]
      rw [ev]
      exact h0 x hx rfl u (by rw [fu 39 (by omega), f6 39 (by omega)]; exact e39) (moS_same (fun d hd => by rw [fu d (by omega), f6 d (by omega)]) hA4)
  · have e39 : μ4 39 0 = 1 := by rw [e4, s2_same]
    rw [e39]
    exact ⟨fun h => absurd h (by decide), fun _ => h1 hn 0 μ4 e39 (moS_same (fun d hd => by rw [e4, s2_comp _ _ _ _ (by omega)]) hA)⟩
def vUnit (A : AS) (i x : Nat) : Int32 := if x = 0 then nI (Ab A i) else if x = 1 then psF (planP (AOs A) (AC A) (Ab A) (Az A)) i else if x = 2 then psU (planP (AOs A) (AC A) (Ab A) (Az A)) i else nI (psY (planP (AOs A) (AC A) (Ab A) (Az A)) i)
theorem clT_unit {A : AS} {θ β τ : St} {ω : Nat → St} {π : St} (κ υ : St) (ρ ο : Nat → Int64) (hok : okS A) (hA : clS A θ β τ ω π) (N : Nat) (hN : 100001 ≤ N) {st : Nat} (hS : repS υ st) (hst : st + 6 < 2 ^ 30) (x1 x2 : Int32) (post : Int32 → (St × St × St × St × (Nat → Int64) × (Nat → Int64)) → Prop)
    (h1 : ¬ rg 0 (Az A) x1 → post 1 (θ, κ, υ, π, ρ, ο)) (h2 : rg 0 (Az A) x1 → ¬ rg 0 4 x2 → post 2 (θ, κ, υ, π, ρ, ο))
    (h0 : ∀ i x, i < Az A → x < 4 → x1 = nI i → x2 = nI x → ∀ θ2 κ2 υ2 π2 ρ2 ο2 st2, st2 ≤ st + 6 → repS υ2 st2 → clS A θ2 β τ ω π2 → ο2 0 = Int32.toInt64 (vUnit A i x) → post 0 (θ2, κ2, υ2, π2, ρ2, ο2)) : wp_Law_unit N θ β τ ω κ υ π ρ ο x1 x2 post := by
  obtain ⟨a1, a2, a3, a4, a5⟩ := id hA
  have hz := a2.1
  unfold wp_Law_unit wp_Till_unit
  refine pf_reqIdx N (z := Az A) (by omega) a2.2.1 _ _ (fun i hi e1 => ?_) (fun hn => Or.inl ⟨rfl, h1 hn⟩)
  subst e1
  refine pf_TwA N (lo := 0) (n := 4) (by decide) (by decide) (by decide) _ _ (fun x _ hx e2 => ?_) (fun hn => Or.inr ⟨rfl, h2 (rg_of (by omega) hi) hn⟩)
  subst e2
  have hin : vp_in (nI i) 10 := vp_in_nI (by omega) (by decide)
  have fin : ∀ (v : Int32) (θ2 κ2 υ2 π2 : St) (ρ2 : Nat → Int64) (st2 : Nat), st2 ≤ st + 6 → repS υ2 st2 → clS A θ2 β τ ω π2 → v = vUnit A i x → (vp_in 0 1 ∧ (∀ ο4, ο4 = vp_updL ο (Int32.toNatClampNeg 0) (Int32.toInt64 v) → post 0 (θ2, κ2, υ2, π2, ρ2, ο4))) := by
    intro v θ2 κ2 υ2 π2 ρ2 st2 g1 g2 g3 ev
    refine ⟨vp_in_nI (n := 0) (by decide) (by decide), fun ο4 e4 => h0 i x hi hx rfl rfl θ2 κ2 υ2 π2 ρ2 ο4 st2 g1 g2 g3 ?_⟩
    rw [e4, ev]
    exact upL_same ..
  refine ⟨fun hne => ?_, fun heq => ⟨hin, ?_⟩⟩
  · have hx0 : x ≠ 0 := fun e => hne (by rw [e]; rfl)
    refine pf_findPlan N hN κ υ ρ hok hA hS hst _ (fun θ2 κ2 υ2 π2 ρ2 st2 g1 g2 g3 g4 => ?_)
    obtain ⟨p1, p2, p3, -⟩ := g4.1 i hi
    rw [nI_clamp (by omega)]
    refine pk_eq x 1 (fun e => ⟨hin, fin _ θ2 κ2 υ2 π2 ρ2 st2 g1 g2 g3 ?_⟩) (fun e => pk_eq x 2 (fun e2 => ⟨hin, fin _ θ2 κ2 υ2 π2 ρ2 st2 g1 g2 g3 ?_⟩) (fun e2 => ⟨hin, fin _ θ2 κ2 υ2 π2 ρ2 st2 g1 g2 g3 ?_⟩))
    · unfold vUnit; rw [if_neg hx0, if_pos e]; exact p1
    · unfold vUnit; rw [if_neg hx0, if_neg e, if_pos e2]; exact p2
    · unfold vUnit; rw [if_neg hx0, if_neg e, if_neg e2]; exact p3
  · have hx0 : x = 0 := (eqL (n := x) (m := 0) (by omega) (by decide)).mp heq
    refine fin _ θ κ υ π ρ st (by omega) hS hA ?_
    unfold vUnit
    rw [if_pos hx0, nI_clamp (by omega)]; exact (a2.2.2 i hi).1
theorem moT_unit {A : AS} {μ : St} (hok : okS A) (hA : moS A μ) (N : Nat) (hN : 100001 ≤ N) (x1 x2 : Int32) (post : Int32 → St → Prop)
    (h1 : ¬ rg 0 (Az A) x1 → ∀ v u, u 39 0 = 1 → moS A u → post v u) (h2 : rg 0 (Az A) x1 → ¬ rg 0 4 x2 → ∀ v u, u 39 0 = 2 → moS A u → post v u)
    (h0 : ∀ i x, i < Az A → x < 4 → x1 = nI i → x2 = nI x → ∀ u, u 39 0 = 0 → moS A u → post (vUnit A i x) u) : wp_Model_unit N μ x1 x2 post := by
  have hz := hok.hz
  have m4 := hA.2.2.2.1
  have stop : ∀ y : Int32, ¬ y = 0 → (∀ v u, u 39 0 = y → moS A u → post v u) → wp_Model_unit_33 N post x1 x2 y μ := by
    intro y hy hk
    unfold wp_Model_unit_33
    intro μ5 e5
    have e39 : μ5 39 0 = y := by rw [e5, s2_same]
    rw [e39]
    exact ⟨fun h => absurd h hy, fun _ => hk 0 μ5 e39 (moS_same (fun d hd => by rw [e5, s2_comp _ _ _ _ (by omega)]) hA)⟩
  unfold wp_Model_unit
  refine pf_Mw N (lo := 0) (n := Az A) (by omega) (by decide) (by rw [m4]) _ (fun i _ hi e1 => ⟨fun _ => ?_, fun h => absurd h (by decide)⟩) (fun hn => ⟨fun h => absurd rfl h, fun _ => stop 1 (by decide) (h1 hn)⟩)
  refine pf_Mw N (lo := 0) (n := 4) (by decide) (by decide) (by decide) _ (fun x _ hx e2 => ⟨fun _ => ?_, fun h => absurd h (by decide)⟩) (fun hn => ⟨fun h => absurd rfl h, fun _ => stop 2 (by decide) (h2 ⟨i, by omega, hi, e1⟩ hn)⟩)
  subst e1 e2
  unfold wp_Model_unit_33
  intro μ7 e7
  have e39 : μ7 39 0 = 0 := by rw [e7, s2_same]
  have hA7 : moS A μ7 := moS_same (fun d hd => by rw [e7, s2_comp _ _ _ _ (by omega)]) hA
  rw [e39]
  refine ⟨fun _ => pf_takeBasket N (by omega) hok hA7 _ (fun u9 f9 hX => pf_plan N hN hX hok.hC hok.hroom _ (fun u fu hQ => ?_)), fun h => absurd rfl h⟩
  have hin : vp_in (nI i) 10 := vp_in_nI (by omega) (by decide)
  have hAu : moS A u := moS_same (fun d hd => by rw [fu d (by omega), f9 d (by omega)]) hA7
  have eu : u 39 0 = 0 := by rw [fu 39 (by omega), f9 39 (by omega)]; exact e39
  have fin : ∀ v, v = vUnit A i x → post v u := fun v ev => by rw [ev]; exact h0 i x hi hx rfl rfl u eu hAu
  obtain ⟨p1, p2, p3, -⟩ := hQ.1 i hi
  have e8 : u 8 i = nI (Ab A i) := hAu.2.2.1 i hi
  rw [nI_clamp (by omega)]
  refine ⟨fun hne0 => ?_, fun heq0 => ⟨hin, fin _ ?_⟩⟩
  · have hx0 : x ≠ 0 := fun e => hne0 (by rw [e]; rfl)
    refine ⟨fun hne1 => ?_, fun heq1 => ⟨hin, fin _ ?_⟩⟩
    · have hx1 : x ≠ 1 := fun e => hne1 (by rw [e]; rfl)
      refine ⟨fun hne2 => ⟨hin, fin _ ?_⟩, fun heq2 => ⟨hin, fin _ ?_⟩⟩
      · have hx2 : x ≠ 2 := fun e => hne2 (by rw [e]; rfl)
        unfold vUnit; rw [if_neg hx0, if_neg hx1, if_neg hx2]; exact p3
      · have hx2 : x = 2 := (eqL (n := x) (m := 2) (by omega) (by decide)).mp heq2
        unfold vUnit; rw [if_neg hx0, if_neg hx1, if_pos hx2]; exact p2
    · have hx1 : x = 1 := (eqL (n := x) (m := 1) (by omega) (by decide)).mp heq1
      unfold vUnit; rw [if_neg hx0, if_pos hx1]; exact p1
  · have hx0 : x = 0 := (eqL (n := x) (m := 0) (by omega) (by decide)).mp heq0
    unfold vUnit; rw [if_pos hx0]; exact e8
/-! tax -/
def txS (A : AS) (c : Nat) : Nat → Nat
  | 0 => 0
  | i + 1 => txS A c i + (if AX A (Ab A i) = c then psY (planP (AOs A) (AC A) (Ab A) (Az A)) i else 0)
def pct (c : Nat) : Nat := if c = 0 then 0 else if c = 1 then 7 else if c = 2 then 19 else 25
def vTax (A : AS) (c : Nat) : Int32 := nI ((2 * txS A c (Az A) * pct c + (100 + pct c)) / (2 * (100 + pct c)))
theorem txS_le {A : AS} (hok : okS A) (c : Nat) : ∀ i, txS A c i ≤ i * 100000 := by
  intro i
  induction i with
  | zero => exact Nat.le_refl _
  | succ i ih =>
    have h := (planP_ok hok.hO hok.hC hok.hz hok.hb).2.1 i
    rw [show txS A c (i + 1) = txS A c i + (if AX A (Ab A i) = c then psY (planP (AOs A) (AC A) (Ab A) (Az A)) i else 0) from rfl, Nat.succ_mul]
    refine Nat.add_le_add ih ?_
    split
    · exact h
    · exact Nat.zero_le _
theorem pct_le (c : Nat) : pct c ≤ 25 := by
  unfold pct
  split
  · omega
  · split
    · omega
    · split <;> omega
theorem pcv_eq (c : Nat) : pcv c = nI (pct c) := by
  unfold pcv pct
  split
  · rfl
  · split
    · rfl
    · split <;> rfl
theorem clT_tax {A : AS} {θ β τ : St} {ω : Nat → St} {π : St} (κ υ : St) (ρ ο : Nat → Int64) (hok : okS A) (hA : clS A θ β τ ω π) (N : Nat) (hN : 100001 ≤ N) {st : Nat} (hS : repS υ st) (hst : st + 6 < 2 ^ 30) (x1 : Int32) (post : Int32 → (St × St × St × St × (Nat → Int64) × (Nat → Int64)) → Prop)
    (h1 : ¬ rg 0 4 x1 → post 1 (θ, κ, υ, π, ρ, ο))
    (h0 : ∀ c, c < 4 → x1 = nI c → ∀ θ2 κ2 υ2 π2 ρ2 ο2 st2, st2 ≤ st + 6 → repS υ2 st2 → clS A θ2 β τ ω π2 → ο2 0 = Int32.toInt64 (vTax A c) → post 0 (θ2, κ2, υ2, π2, ρ2, ο2)) : wp_Law_tax N θ β τ ω κ υ π ρ ο x1 post := by
  obtain ⟨a1, a2, a3, a4, a5⟩ := id hA
  have hz := a2.1
  unfold wp_Law_tax wp_Till_tax
  refine pf_TwA N (lo := 0) (n := 4) (by decide) (by decide) (by decide) _ _ (fun c _ hc e1 => ?_) (fun hn => ⟨rfl, h1 hn⟩)
  subst e1
  refine pf_findPlan N hN κ υ ρ hok hA hS hst _ (fun θ2 κ2 υ2 π2 ρ2 st2 g1 g2 g3 g4 => ?_)
  have hp25 := pct_le c
  have htS := txS_le hok c (Az A)
  have loop : ∀ (n i : Nat), i ≤ Az A → Az A - i < n → wp_Till_tax_22 N β τ ω (fun r2 u1 => (vp_in 0 1 ∧ (∀ ο4, ο4 = vp_updL ο (Int32.toNatClampNeg 0) (Int32.toInt64 r2) → post 0 (u1.1, u1.2.1, u1.2.2.1, u1.2.2.2.1, u1.2.2.2.2, ο4)))) (fun E u1 => (E = eIA ∧ post 1 (u1.1, u1.2.1, u1.2.2.1, u1.2.2.2.1, u1.2.2.2.2, ο))) n (nI c) (nI (txS A c i)) (nI i) θ2 κ2 υ2 π2 ρ2 := by
    intro n
    induction n with
    | zero => intro i _ h; omega
    | succ n ih =>
      intro i hi hn
      rw [wp_Till_tax_22, a2.2.1]
      refine pk_le (Az A) i (fun hq => ?_) (fun hq => ?_)
      · have : i = Az A := by omega
        subst this
        rw [nI_clamp (by omega), pcv_eq, show (2 : Int32) = nI 2 from rfl, show (100 : Int32) = nI 100 from rfl, nI_add, pk_mul, pk_mul, pk_mul, nI_add]
        have hb1 : 2 * txS A c (Az A) * pct c ≤ 2 * 1000000 * 25 := Nat.mul_le_mul (by omega) hp25
        rw [pk_div (by omega) (by omega) (by omega)]
        refine ⟨vp_in_nI hc (by decide), fun h => ?_, vp_in_nI (n := 0) (by decide) (by decide), fun ο4 e4 => h0 c hc rfl θ2 κ2 υ2 π2 ρ2 ο4 st2 g1 g2 g3 ?_⟩
        · have := (eqL (n := 2 * (100 + pct c)) (m := 0) (by omega) (by decide)).mp h
          omega
        · rw [e4]
          exact upL_same ..
      · obtain ⟨x1, x2⟩ := a2.2.2 i hq
        have hX3 := hok.hX (Ab A i) x2
        obtain ⟨p1, p2, p3, -⟩ := g4.1 i hq
        have es : txS A c (i + 1) = txS A c i + (if AX A (Ab A i) = c then psY (planP (AOs A) (AC A) (Ab A) (Az A)) i else 0) := rfl
        have nx := ih (i + 1) (by omega) (by omega)
        rw [es] at nx
        have hin : vp_in (nI i) 10 := vp_in_nI (by omega) (by decide)
        rw [nI_clamp (show i < 2 ^ 31 by omega), x1, nI_clamp (by omega), (g3.2.2.1 _ x2).2, p3]
        unfold wp_Till_tax_63
        rw [nI_1]
        refine ⟨hin, vp_in_nI x2 (by decide), fun hne => ?_, fun heq => ⟨hin, ?_⟩⟩
        · rw [if_neg (fun e => hne (by rw [e]))] at nx
          exact nx
        · rw [if_pos ((eqL (by omega) (by omega)).mp heq)] at nx
          rw [nI_add]; exact nx
  exact loop N 0 (by omega) (by omega)
theorem moT_tax {A : AS} {μ : St} (hok : okS A) (hA : moS A μ) (N : Nat) (hN : 100001 ≤ N) (x1 : Int32) (post : Int32 → St → Prop)
    (h1 : ¬ rg 0 4 x1 → ∀ v u, u 39 0 = 1 → moS A u → post v u)
    (h0 : ∀ c, c < 4 → x1 = nI c → ∀ u, u 39 0 = 0 → moS A u → post (vTax A c) u) : wp_Model_tax N μ x1 post := by
  have hz := hok.hz
  unfold wp_Model_tax wp_Model_tax_15
  refine pf_Mw N (lo := 0) (n := 4) (by decide) (by decide) (by decide) _ (fun c _ hc e1 => ⟨fun h => absurd h (by decide), fun _ => fun μ4 e4 => ?_⟩) (fun hn => ⟨fun _ => fun μ4 e4 => ?_, fun h => absurd rfl h⟩)
  · subst e1
    have e39 : μ4 39 0 = 0 := by rw [e4, s2_same]
    have hA4 : moS A μ4 := moS_same (fun d hd => by rw [e4, s2_comp _ _ _ _ (by omega)]) hA
    rw [e39]
    refine ⟨fun _ => pf_takeBasket N (by omega) hok hA4 _ (fun u9 f9 hX => pf_plan N hN hX hok.hC hok.hroom _ (fun u fu hQ => ?_)), fun h => absurd rfl h⟩
    have hAu : moS A u := moS_same (fun d hd => by rw [fu d (by omega), f9 d (by omega)]) hA4
    have eu : u 39 0 = 0 := by rw [fu 39 (by omega), f9 39 (by omega)]; exact e39
    obtain ⟨m1, m2, m3, m4, -⟩ := id hAu
    have hp25 := pct_le c
    have htS := txS_le hok c (Az A)
    have fin : ∀ p, p = pct c → wp_Model_tax_112 N post (lN (txS A c (Az A))) (nI p) u := by
      intro p ep
      subst ep
      unfold wp_Model_tax_112
      have hb1 : 2 * txS A c (Az A) * pct c ≤ 2 * 1000000 * 25 := Nat.mul_le_mul (by omega) hp25
      rw [show (2 : Int64) = lN 2 from rfl, show (100 : Int64) = lN 100 from rfl, show (2 : Int32) = nI 2 from rfl, show (100 : Int32) = nI 100 from rfl, nI_add, pk_mul, nI_l (by omega), nI_l (by omega), lN_mul, lN_mul, lN_add, lN_add, pk_lDiv (by omega) (by omega) (by omega), lN_i]
      refine ⟨fun h => ?_, ?_⟩
      · have := (pk_lEQ (a := 2 * (100 + pct c)) (b := 0) (by omega) (by decide)).mp h
        omega
      · have ev : nI ((2 * txS A c (Az A) * pct c + 100 + pct c) / (2 * (100 + pct c))) = vTax A c := by
          unfold vTax
          rw [Nat.add_assoc]
        rw [ev]
        exact h0 c hc rfl u eu hAu
    have loop : ∀ (n i : Nat), i ≤ Az A → Az A - i < n → wp_Model_tax_40 N post n (nI c) (lN (txS A c i)) (nI i) u := by
      intro n
      induction n with
      | zero => intro i _ h; omega
      | succ n ih =>
        intro i hi hn
        rw [wp_Model_tax_40, m4]
        refine pk_le (Az A) i (fun hq => ?_) (fun hq => ?_)
        · have : i = Az A := by omega
          subst this
          refine ⟨fun hne0 => ?_, fun heq0 => fin 0 ?_⟩
          · have hc0 : c ≠ 0 := fun e => hne0 (by rw [e]; rfl)
            refine ⟨fun hne1 => ?_, fun heq1 => fin 7 ?_⟩
            · have hc1 : c ≠ 1 := fun e => hne1 (by rw [e]; rfl)
              refine ⟨fun hne2 => fin 25 ?_, fun heq2 => fin 19 ?_⟩
              · have hc2 : c ≠ 2 := fun e => hne2 (by rw [e]; rfl)
                unfold pct; rw [if_neg hc0, if_neg hc1, if_neg hc2]
              · have hc2 : c = 2 := (eqL (n := c) (m := 2) (by omega) (by decide)).mp heq2
                unfold pct; rw [if_neg hc0, if_neg hc1, if_pos hc2]
            · have hc1 : c = 1 := (eqL (n := c) (m := 1) (by omega) (by decide)).mp heq1
              unfold pct; rw [if_neg hc0, if_pos hc1]
          · have hc0 : c = 0 := (eqL (n := c) (m := 0) (by omega) (by decide)).mp heq0
            unfold pct; rw [if_pos hc0]
        · have x2 := hok.hb i hq
          have hX3 := hok.hX (Ab A i) x2
          have p3 := (hQ.1 i hq).2.2.1
          have hY := (planP_ok hok.hO hok.hC hok.hz hok.hb).2.1 i
          have es : txS A c (i + 1) = txS A c i + (if AX A (Ab A i) = c then psY (planP (AOs A) (AC A) (Ab A) (Az A)) i else 0) := rfl
          have nx := ih (i + 1) (by omega) (by omega)
          rw [es] at nx
          have hin : vp_in (nI i) 10 := vp_in_nI (by omega) (by decide)
          rw [nI_clamp (show i < 2 ^ 31 by omega), m3 i hq, nI_clamp (by omega), (m1 _ x2).2, p3]
          unfold wp_Model_tax_76
          rw [nI_1]
          refine ⟨hin, vp_in_nI x2 (by decide), fun hne => ?_, fun heq => ⟨hin, ?_⟩⟩
          · rw [if_neg (fun e => hne (by rw [e]))] at nx
            exact nx
          · rw [if_pos ((eqL (by omega) (by omega)).mp heq)] at nx
            rw [nI_l (by omega), lN_add]; exact nx
    exact loop N 0 (by omega) (by omega)
  · have e39 : μ4 39 0 = 1 := by rw [e4, s2_same]
    rw [e39]
    exact ⟨fun h => absurd h (by decide), fun _ => h1 hn 0 μ4 e39 (moS_same (fun d hd => by rw [e4, s2_comp _ _ _ _ (by omega)]) hA)⟩
