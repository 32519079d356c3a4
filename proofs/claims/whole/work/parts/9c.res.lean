/-! what each call does (3): finish, giveBack, receipt, line -/
noncomputable def rFin (A : AS) (x1 : Int32) : RT := cif (Az A = 0) (1, A, 0) (cif (x1 < nI (tlA A)) (2, A, 0) (cif (AR A = 12) (3, A, 0) (0, aFin A, x1 - nI (tlA A))))
theorem rFin_1 {A : AS} {x1 : Int32} (h : Az A = 0) : rFin A x1 = (1, A, 0) := cif_pos h
theorem rFin_2 {A : AS} {x1 : Int32} (h : Az A ≠ 0) (h2 : x1 < nI (tlA A)) : rFin A x1 = (2, A, 0) := (cif_neg h).trans (cif_pos h2)
theorem rFin_3 {A : AS} {x1 : Int32} (h : Az A ≠ 0) (h2 : ¬ x1 < nI (tlA A)) (h3 : AR A = 12) : rFin A x1 = (3, A, 0) := (cif_neg h).trans ((cif_neg h2).trans (cif_pos h3))
theorem rFin_0 {A : AS} {x1 : Int32} (h : Az A ≠ 0) (h2 : ¬ x1 < nI (tlA A)) (h3 : AR A < 12) : rFin A x1 = (0, aFin A, x1 - nI (tlA A)) := (cif_neg h).trans ((cif_neg h2).trans (cif_neg (by omega)))
/-- how finish throws -/
def finE (k : Int32) (E : String) : Prop := (k = 1 ∧ E = eIS) ∨ (k = 2 ∧ E = eIA) ∨ (k = 3 ∧ E = eUO)
theorem moR_fin {A : AS} {μ : St} (hok : okS A) (hA : moS A μ) (N : Nat) (hN : 100001 ≤ N) (x1 : Int32) (post : Int32 → St → Prop) (hp : ∀ v u, u 39 0 = (rFin A x1).1 → ((rFin A x1).1 = 0 → v = (rFin A x1).2.2) → moS (rFin A x1).2.1 u → post v u) : wp_Model_finish N μ x1 post := by
  refine moT_fin hok hA N hN x1 post (fun h v u e m => ?_) (fun h h2 v u e m => ?_) (fun h h2 h3 v u e m => ?_) (fun h h2 h3 u e m => ?_)
  · rw [rFin_1 h] at hp; exact hp v u e no1 m
  · rw [rFin_2 h h2] at hp; exact hp v u e no2 m
  · rw [rFin_3 h h2 h3] at hp; exact hp v u e no3 m
  · rw [rFin_0 h h2 h3] at hp; exact hp _ u e (fun _ => rfl) m
theorem clR_finV0 {A : AS} {θ β τ : St} {ω : Nat → St} {π α : St} (κ υ : St) (ρ : Nat → Int64) (hok : okS A) (hA : clS A θ β τ ω π) (hα : α 2 0 = nI (AR A)) (N : Nat) (hN : 100001 ≤ N) {st : Nat} (hS : repS υ st) (hst : st + 6 < 2 ^ 30) (x1 : Int32) (post : Int32 → (St × St × St × St × St × (Nat → Int64) × Option NwT) → Prop) (xp : String → (St × St × St × St × St × (Nat → Int64) × Option NwT) → Prop)
    (hx : ∀ E, finE (rFin A x1).1 E → (rFin A x1).2.1 = A → ∀ θ2 κ2 υ2 π2 ρ2 st2, st2 ≤ st + 6 → repS υ2 st2 → clS A θ2 β τ ω π2 → xp E (θ2, β, κ2, υ2, π2, ρ2, none))
    (h0 : (rFin A x1).1 = 0 → (rFin A x1).2.1 = aFin A → AR A < 12 → okS (aFin A) → ∀ θ2 β2 κ2 υ2 π2 ρ2 st2 (w : NwT), st2 ≤ st + 6 → repS υ2 st2 → clS (aFin A) θ2 β2 τ ω π2 → rcS (aFin A) (AR A) w.1.2.2.1 w.1.2.2.2 w.1.2.1.1 w.1.2.1.2 → post (rFin A x1).2.2 (θ2, β2, κ2, υ2, π2, ρ2, some w)) : wp_Till_finishV0_0 N τ ω α post xp (K71_V0 N τ ω post) x1 θ β κ υ π ρ := by
  refine clT_finV0 κ υ ρ hok hA hα N hN hS hst x1 post xp (fun h => ?_) (fun h h2 θ2 κ2 υ2 π2 ρ2 st2 g1 g2 g3 => ?_) (fun h h2 h3 θ2 κ2 υ2 π2 ρ2 st2 g1 g2 g3 => ?_) (fun h h2 h3 => ?_)
  · rw [rFin_1 h] at hx; exact hx eIS (Or.inl ⟨rfl, rfl⟩) rfl θ κ υ π ρ st (by omega) hS hA
  · rw [rFin_2 h h2] at hx; exact hx eIA (Or.inr (Or.inl ⟨rfl, rfl⟩)) rfl θ2 κ2 υ2 π2 ρ2 st2 g1 g2 g3
  · rw [rFin_3 h h2 h3] at hx; exact hx eUO (Or.inr (Or.inr ⟨rfl, rfl⟩)) rfl θ2 κ2 υ2 π2 ρ2 st2 g1 g2 g3
  · rw [rFin_0 h h2 h3] at h0; exact h0 rfl rfl h3 (ok_fin hok h3)
theorem clR_finV1 {A : AS} {θ β τ : St} {ω : Nat → St} {π α : St} (ε : St) (κ υ : St) (ρ : Nat → Int64) (hok : okS A) (hA : clS A θ β τ ω π) (hα : α 2 0 = nI (AR A)) (N : Nat) (hN : 100001 ≤ N) {st : Nat} (hS : repS υ st) (hst : st + 6 < 2 ^ 30) (x1 : Int32) (post : Int32 → (St × St × St × St × St × (Nat → Int64) × Option NwT) → Prop) (xp : String → (St × St × St × St × St × (Nat → Int64) × Option NwT) → Prop)
    (hx : ∀ E, finE (rFin A x1).1 E → (rFin A x1).2.1 = A → ∀ θ2 κ2 υ2 π2 ρ2 st2, st2 ≤ st + 6 → repS υ2 st2 → clS A θ2 β τ ω π2 → xp E (θ2, β, κ2, υ2, π2, ρ2, none))
    (h0 : (rFin A x1).1 = 0 → (rFin A x1).2.1 = aFin A → AR A < 12 → okS (aFin A) → ∀ θ2 β2 κ2 υ2 π2 ρ2 st2 (w : NwT), st2 ≤ st + 6 → repS υ2 st2 → clS (aFin A) θ2 β2 τ ω π2 → rcS (aFin A) (AR A) w.1.2.2.1 w.1.2.2.2 w.1.2.1.1 w.1.2.1.2 → post (rFin A x1).2.2 (θ2, β2, κ2, υ2, π2, ρ2, some w)) : wp_Till_finishV1_0 N τ ω α ε post xp (K71_V1 N τ ω post) x1 θ β κ υ π ρ := by
  refine clT_finV1 ε κ υ ρ hok hA hα N hN hS hst x1 post xp (fun h => ?_) (fun h h2 θ2 κ2 υ2 π2 ρ2 st2 g1 g2 g3 => ?_) (fun h h2 h3 θ2 κ2 υ2 π2 ρ2 st2 g1 g2 g3 => ?_) (fun h h2 h3 => ?_)
  · rw [rFin_1 h] at hx; exact hx eIS (Or.inl ⟨rfl, rfl⟩) rfl θ κ υ π ρ st (by omega) hS hA
  · rw [rFin_2 h h2] at hx; exact hx eIA (Or.inr (Or.inl ⟨rfl, rfl⟩)) rfl θ2 κ2 υ2 π2 ρ2 st2 g1 g2 g3
  · rw [rFin_3 h h2 h3] at hx; exact hx eUO (Or.inr (Or.inr ⟨rfl, rfl⟩)) rfl θ2 κ2 υ2 π2 ρ2 st2 g1 g2 g3
  · rw [rFin_0 h h2 h3] at h0; exact h0 rfl rfl h3 (ok_fin hok h3)
theorem clR_finV2 {A : AS} {θ β τ : St} {ω : Nat → St} {π α : St} (ε : St) (κ υ : St) (ρ : Nat → Int64) (hok : okS A) (hA : clS A θ β τ ω π) (hα : α 2 0 = nI (AR A)) (N : Nat) (hN : 100001 ≤ N) {st : Nat} (hS : repS υ st) (hst : st + 6 < 2 ^ 30) (x1 : Int32) (post : Int32 → (St × St × St × St × St × (Nat → Int64) × Option NwT) → Prop) (xp : String → (St × St × St × St × St × (Nat → Int64) × Option NwT) → Prop)
    (hx : ∀ E, finE (rFin A x1).1 E → (rFin A x1).2.1 = A → ∀ θ2 κ2 υ2 π2 ρ2 st2, st2 ≤ st + 6 → repS υ2 st2 → clS A θ2 β τ ω π2 → xp E (θ2, β, κ2, υ2, π2, ρ2, none))
    (h0 : (rFin A x1).1 = 0 → (rFin A x1).2.1 = aFin A → AR A < 12 → okS (aFin A) → ∀ θ2 β2 κ2 υ2 π2 ρ2 st2 (w : NwT), st2 ≤ st + 6 → repS υ2 st2 → clS (aFin A) θ2 β2 τ ω π2 → rcS (aFin A) (AR A) w.1.2.2.1 w.1.2.2.2 w.1.2.1.1 w.1.2.1.2 → post (rFin A x1).2.2 (θ2, β2, κ2, υ2, π2, ρ2, some w)) : wp_Till_finishV2_0 N τ ω α ε post xp (K71_V2 N τ ω post) x1 θ β κ υ π ρ := by
  refine clT_finV2 ε κ υ ρ hok hA hα N hN hS hst x1 post xp (fun h => ?_) (fun h h2 θ2 κ2 υ2 π2 ρ2 st2 g1 g2 g3 => ?_) (fun h h2 h3 θ2 κ2 υ2 π2 ρ2 st2 g1 g2 g3 => ?_) (fun h h2 h3 => ?_)
  · rw [rFin_1 h] at hx; exact hx eIS (Or.inl ⟨rfl, rfl⟩) rfl θ κ υ π ρ st (by omega) hS hA
  · rw [rFin_2 h h2] at hx; exact hx eIA (Or.inr (Or.inl ⟨rfl, rfl⟩)) rfl θ2 κ2 υ2 π2 ρ2 st2 g1 g2 g3
  · rw [rFin_3 h h2 h3] at hx; exact hx eUO (Or.inr (Or.inr ⟨rfl, rfl⟩)) rfl θ2 κ2 υ2 π2 ρ2 st2 g1 g2 g3
  · rw [rFin_0 h h2 h3] at h0; exact h0 rfl rfl h3 (ok_fin hok h3)
def inL (A : AS) (x1 x2 : Int32) : Prop := ∃ r i, r < AR A ∧ i < Arz A r ∧ x1 = nI r ∧ x2 = nI i
noncomputable def rLin (A : AS) (x1 x2 x3 : Int32) : RT := cif (inL A x1 x2) (cif (rg 0 4 x3) (0, A, vLine A (cN x1) (cN x2) (cN x3)) (2, A, 0)) (1, A, 0)
theorem rLin_1 {A : AS} {x1 x2 x3 : Int32} (h : ¬ inL A x1 x2) : rLin A x1 x2 x3 = (1, A, 0) := cif_neg h
theorem rLin_2 {A : AS} {x1 x2 x3 : Int32} (h : inL A x1 x2) (h2 : ¬ rg 0 4 x3) : rLin A x1 x2 x3 = (2, A, 0) := (cif_pos h).trans (cif_neg h2)
theorem rLin_0 {A : AS} (hok : okS A) {r i x : Nat} (h : r < AR A) (h1 : i < Arz A r) (h2 : x < 4) : rLin A (nI r) (nI i) (nI x) = (0, A, vLine A r i x) := by
  have hR := hok.hR
  have hz : Arz A r ≤ 10 := (hok.hrec r h).2.2.1
  unfold rLin
  rw [cif_pos ⟨r, i, h, h1, rfl, rfl⟩, cif_pos (rg_of (by omega) h2), cN_nI (n := r) (by omega), cN_nI (n := i) (by omega), cN_nI (n := x) (by omega)]
theorem inL_of {A : AS} {r : Nat} {x2 : Int32} (h : r < AR A) (h2 : rg 0 (Arz A r) x2) : inL A (nI r) x2 := by
  obtain ⟨i, -, h3, h4⟩ := h2
  exact ⟨r, i, h, h3, rfl, h4⟩
theorem inL_no {A : AS} (hR : AR A ≤ 12) {r : Nat} {x2 : Int32} (h : r < AR A) (h2 : ¬ rg 0 (Arz A r) x2) : ¬ inL A (nI r) x2 := by
  rintro ⟨r2, i, q1, q2, q3, q4⟩
  have : r = r2 := (eqL (n := r) (m := r2) (by omega) (by omega)).mp q3
  subst this
  exact h2 ⟨i, Nat.zero_le _, q2, q4⟩
theorem inL_nr {A : AS} {x1 x2 : Int32} (h : ¬ rg 0 (AR A) x1) : ¬ inL A x1 x2 := by
  rintro ⟨r2, i, q1, q2, q3, q4⟩
  exact h ⟨r2, Nat.zero_le _, q1, q3⟩
theorem clR_lin {A : AS} (hok : okS A) (N : Nat) {θ α : St} (ε : St) (ο : Nat → Int64) (hα : α 2 0 = nI (AR A)) {r : Nat} (hr : r < AR A) {χ β2 τ2 : St} {ω2 : Nat → St} (hc : rcS A r χ β2 τ2 ω2) (x2 x3 : Int32) (post : Int32 → (Nat → Int64) → Prop)
    (hp : ∀ ο2, (rLin A (nI r) x2 x3).2.1 = A → ((rLin A (nI r) x2 x3).1 = 0 → ο2 0 = Int32.toInt64 (rLin A (nI r) x2 x3).2.2) → post (rLin A (nI r) x2 x3).1 ο2) : wp_Law_line N θ α ε χ β2 ο (nI r) x2 x3 post := by
  refine clT_line hok N ε ο hα hr hc x2 x3 post (fun h => ?_) (fun h h2 => ?_) (fun i x a1 a2 e1 e2 ο2 eo => ?_)
  · rw [rLin_1 (inL_no hok.hR hr h)] at hp; exact hp ο rfl no1
  · rw [rLin_2 (inL_of hr h) h2] at hp; exact hp ο rfl no2
  · subst e1 e2; rw [rLin_0 hok hr a1 a2] at hp; exact hp ο2 rfl (fun _ => eo)
theorem clR_linN {A : AS} (hok : okS A) (N : Nat) {θ α : St} (ο : Nat → Int64) (hα : α 2 0 = nI (AR A)) {x1 : Int32} (hr : ¬ rg 0 (AR A) x1) (x2 x3 : Int32) (post : Int32 → (Nat → Int64) → Prop)
    (hp : ∀ ο2, (rLin A x1 x2 x3).2.1 = A → ((rLin A x1 x2 x3).1 = 0 → ο2 0 = Int32.toInt64 (rLin A x1 x2 x3).2.2) → post (rLin A x1 x2 x3).1 ο2) : wp_Law_lineN N θ α ο x1 x2 x3 post := by
  rw [rLin_1 (inL_nr hr)] at hp
  exact clT_lineN hok N ο hα hr x2 x3 post (hp ο rfl no1)
theorem moR_lin {A : AS} {μ : St} (hok : okS A) (hA : moS A μ) (N : Nat) (x1 x2 x3 : Int32) (post : Int32 → St → Prop) (hp : ∀ v u, u 39 0 = (rLin A x1 x2 x3).1 → ((rLin A x1 x2 x3).1 = 0 → v = (rLin A x1 x2 x3).2.2) → moS (rLin A x1 x2 x3).2.1 u → post v u) : wp_Model_line N μ x1 x2 x3 post := by
  refine moT_line hok hA N x1 x2 x3 post (fun h v u e m => ?_) (fun h h2 v u e m => ?_) (fun r i x a0 a1 a2 e1 e2 e3 u e m => ?_)
  · rw [rLin_1 h] at hp; exact hp v u e no1 m
  · rw [rLin_2 h h2] at hp; exact hp v u e no2 m
  · subst e1 e2 e3; rw [rLin_0 hok a0 a1 a2] at hp; exact hp _ u e (fun _ => rfl) m
noncomputable def rRec (A : AS) (x1 x2 : Int32) : RT := cif (rg 0 6 x2) (cif (x2 = nI 4) (0, A, nI (AR A)) (cif (x2 = nI 5) (0, A, AD A) (cif (rg 0 (AR A) x1) (0, A, vRec A (cN x1) (cN x2)) (2, A, 0)))) (1, A, 0)
theorem rRec_1 {A : AS} {x1 x2 : Int32} (h : ¬ rg 0 6 x2) : rRec A x1 x2 = (1, A, 0) := cif_neg h
theorem rRec_4 {A : AS} {x1 x2 : Int32} (h : x2 = nI 4) : rRec A x1 x2 = (0, A, nI (AR A)) := (cif_pos (by rw [h]; exact rg_of (by omega) (by omega))).trans (cif_pos h)
theorem rRec_5 {A : AS} {x1 x2 : Int32} (h : x2 = nI 5) : rRec A x1 x2 = (0, A, AD A) := (cif_pos (by rw [h]; exact rg_of (by omega) (by omega))).trans ((cif_neg (by rw [h]; decide)).trans (cif_pos h))
theorem rRec_2 {A : AS} {x1 : Int32} {x : Nat} (h : x < 4) (hr : ¬ rg 0 (AR A) x1) : rRec A x1 (nI x) = (2, A, 0) := (cif_pos (rg_of (by omega) (by omega))).trans ((cif_neg (fun e => by have := (eqL (n := x) (m := 4) (by omega) (by decide)).mp e; omega)).trans ((cif_neg (fun e => by have := (eqL (n := x) (m := 5) (by omega) (by decide)).mp e; omega)).trans (cif_neg hr)))
theorem rRec_0 {A : AS} (hR : AR A ≤ 12) {r x : Nat} (h : x < 4) (hr : r < AR A) : rRec A (nI r) (nI x) = (0, A, vRec A r x) := by
  refine (cif_pos (rg_of (by omega) (by omega))).trans ((cif_neg (fun e => by have := (eqL (n := x) (m := 4) (by omega) (by decide)).mp e; omega)).trans ((cif_neg (fun e => by have := (eqL (n := x) (m := 5) (by omega) (by decide)).mp e; omega)).trans ((cif_pos (rg_of (by omega) hr)).trans ?_)))
  rw [cN_nI (n := r) (by omega), cN_nI (n := x) (by omega)]
theorem clR_rec {A : AS} (hok : okS A) (N : Nat) (hN : 11 ≤ N) {θ α : St} (ε : St) (ο : Nat → Int64) (hα : α 2 0 = nI (AR A)) (hθ : θ 8 0 = AD A) {r : Nat} (hr : r < AR A) {χ β2 τ2 : St} {ω2 : Nat → St} (hc : rcS A r χ β2 τ2 ω2) (x2 : Int32) (post : Int32 → (Nat → Int64) → Prop)
    (hp : ∀ ο2, (rRec A (nI r) x2).2.1 = A → ((rRec A (nI r) x2).1 = 0 → ο2 0 = Int32.toInt64 (rRec A (nI r) x2).2.2) → post (rRec A (nI r) x2).1 ο2) : wp_Law_receipt N θ α ε χ β2 ο (nI r) x2 post := by
  refine clT_rec hok N hN ε ο hα hθ hr hc x2 post (fun h => ?_) (fun h ο2 eo => ?_) (fun h ο2 eo => ?_) (fun x a1 e1 ο2 eo => ?_)
  · rw [rRec_1 h] at hp; exact hp ο rfl no1
  · rw [rRec_4 h] at hp; exact hp ο2 rfl (fun _ => eo)
  · rw [rRec_5 h] at hp; exact hp ο2 rfl (fun _ => eo)
  · subst e1; rw [rRec_0 hok.hR a1 hr] at hp; exact hp ο2 rfl (fun _ => eo)
theorem clR_recN {A : AS} (hok : okS A) (N : Nat) {θ α : St} (ο : Nat → Int64) (hα : α 2 0 = nI (AR A)) (hθ : θ 8 0 = AD A) {x1 : Int32} (hr : ¬ rg 0 (AR A) x1) (x2 : Int32) (post : Int32 → (Nat → Int64) → Prop)
    (hp : ∀ ο2, (rRec A x1 x2).2.1 = A → ((rRec A x1 x2).1 = 0 → ο2 0 = Int32.toInt64 (rRec A x1 x2).2.2) → post (rRec A x1 x2).1 ο2) : wp_Law_receiptN N θ α ο x1 x2 post := by
  refine clT_recN hok N ο hα hθ hr x2 post (fun h => ?_) (fun h ο2 eo => ?_) (fun h ο2 eo => ?_) (fun x a1 e1 => ?_)
  · rw [rRec_1 h] at hp; exact hp ο rfl no1
  · rw [rRec_4 h] at hp; exact hp ο2 rfl (fun _ => eo)
  · rw [rRec_5 h] at hp; exact hp ο2 rfl (fun _ => eo)
  · subst e1; rw [rRec_2 a1 hr] at hp; exact hp ο rfl no2
theorem moR_rec {A : AS} {μ : St} (hok : okS A) (hA : moS A μ) (N : Nat) (hN : 11 ≤ N) (x1 x2 : Int32) (post : Int32 → St → Prop) (hp : ∀ v u, u 39 0 = (rRec A x1 x2).1 → ((rRec A x1 x2).1 = 0 → v = (rRec A x1 x2).2.2) → moS (rRec A x1 x2).2.1 u → post v u) : wp_Model_receipt N μ x1 x2 post := by
  refine moT_rec hok hA N hN x1 x2 post (fun h v u e m => ?_) (fun x a1 e1 hr v u e m => ?_) (fun h u e m => ?_) (fun h u e m => ?_) (fun r x hr a1 e1 e2 u e m => ?_)
  · rw [rRec_1 h] at hp; exact hp v u e no1 m
  · subst e1; rw [rRec_2 a1 hr] at hp; exact hp v u e no2 m
  · rw [rRec_4 h] at hp; exact hp _ u e (fun _ => rfl) m
  · rw [rRec_5 h] at hp; exact hp _ u e (fun _ => rfl) m
  · subst e1 e2; rw [rRec_0 hok.hR a1 hr] at hp; exact hp _ u e (fun _ => rfl) m
noncomputable def rGiv (A : AS) (x1 x2 : Int32) : RT := cif (inL A x1 x2) (cif (Ark A (cN x1) (cN x2) = true) (0, aGiv A (cN x1) (cN x2), nI (gvN A (cN x1) (cN x2) - Arr A (cN x1))) (2, A, 0)) (1, A, 0)
theorem rGiv_1 {A : AS} {x1 x2 : Int32} (h : ¬ inL A x1 x2) : rGiv A x1 x2 = (1, A, 0) := cif_neg h
theorem rGiv_2 {A : AS} (hok : okS A) {r i : Nat} (h : r < AR A) (h1 : i < Arz A r) (h2 : Ark A r i = false) : rGiv A (nI r) (nI i) = (2, A, 0) := by
  have hR := hok.hR
  have hz : Arz A r ≤ 10 := (hok.hrec r h).2.2.1
  unfold rGiv
  rw [cif_pos ⟨r, i, h, h1, rfl, rfl⟩, cN_nI (n := r) (by omega), cN_nI (n := i) (by omega), cif_neg (by rw [h2]; decide)]
theorem rGiv_0 {A : AS} (hok : okS A) {r i : Nat} (h : r < AR A) (h1 : i < Arz A r) (h2 : Ark A r i = true) : rGiv A (nI r) (nI i) = (0, aGiv A r i, nI (gvN A r i - Arr A r)) := by
  have hR := hok.hR
  have hz : Arz A r ≤ 10 := (hok.hrec r h).2.2.1
  unfold rGiv
  rw [cif_pos ⟨r, i, h, h1, rfl, rfl⟩, cN_nI (n := r) (by omega), cN_nI (n := i) (by omega), cif_pos h2]
theorem clR_giv {A : AS} (hok : okS A) (N : Nat) (hN : 100001 ≤ N) {θ α : St} (ε β κ υ : St) (ο : Nat → Int64) (hα : α 2 0 = nI (AR A)) (hθ : θ 8 0 = AD A) {r : Nat} (hr : r < AR A) {χ β2 τ : St} {ω : Nat → St} (hc : rcS A r χ β2 τ ω) {st : Nat} (hS : repS υ st) (hst : st + 6 < 2 ^ 30) (x2 : Int32) (post : Int32 → (St × St × St × St × St × (Nat → Int64)) → Prop)
    (hp : ∀ θ2 χ2 β3 κ2 υ2 ο2 st2, st2 ≤ st + 6 → repS υ2 st2 → θ2 8 0 = AD (rGiv A (nI r) x2).2.1 → (∀ d, d ≠ 8 → θ2 d = θ d) → rcS (rGiv A (nI r) x2).2.1 r χ2 β2 τ ω → ((rGiv A (nI r) x2).2.1 = A ∨ ∃ i, (rGiv A (nI r) x2).2.1 = aGiv A r i) → ((rGiv A (nI r) x2).1 = 0 → ο2 0 = Int32.toInt64 (rGiv A (nI r) x2).2.2) → post (rGiv A (nI r) x2).1 (θ2, χ2, β3, κ2, υ2, ο2)) : wp_Law_giveBack N θ α ε χ β2 τ ω β κ υ ο (nI r) x2 post := by
  refine clT_giv hok N hN ε β κ υ ο hα hθ hr hc hS hst x2 post (fun h => ?_) (fun i a1 e1 hk => ?_) (fun i a1 e1 hk θ2 χ2 β3 κ2 υ2 ο2 st2 g1 g2 g3 g4 g5 eo => ?_)
  · rw [rGiv_1 (inL_no hok.hR hr h)] at hp; exact hp θ χ β κ υ ο st (by omega) hS hθ (fun _ _ => rfl) hc (Or.inl rfl) no1
  · subst e1; rw [rGiv_2 hok hr a1 hk] at hp; exact hp θ χ β κ υ ο st (by omega) hS hθ (fun _ _ => rfl) hc (Or.inl rfl) no2
  · subst e1; rw [rGiv_0 hok hr a1 hk] at hp; exact hp θ2 χ2 β3 κ2 υ2 ο2 st2 g1 g2 g3 g4 g5 (Or.inr ⟨i, rfl⟩) (fun _ => eo)
theorem clR_givN {A : AS} (hok : okS A) (N : Nat) {θ α : St} (ο : Nat → Int64) (hα : α 2 0 = nI (AR A)) {x1 : Int32} (hr : ¬ rg 0 (AR A) x1) (x2 : Int32) (post : Int32 → (Nat → Int64) → Prop)
    (hp : ∀ ο2, (rGiv A x1 x2).2.1 = A → ((rGiv A x1 x2).1 = 0 → ο2 0 = Int32.toInt64 (rGiv A x1 x2).2.2) → post (rGiv A x1 x2).1 ο2) : wp_Law_giveBackN N θ α ο x1 x2 post := by
  rw [rGiv_1 (inL_nr hr)] at hp
  exact clT_givN hok N ο hα hr x2 post (hp ο rfl no1)
theorem moR_giv {A : AS} {μ : St} (hok : okS A) (hA : moS A μ) (N : Nat) (hN : 100001 ≤ N) (x1 x2 : Int32) (post : Int32 → St → Prop) (hp : ∀ v u, u 39 0 = (rGiv A x1 x2).1 → ((rGiv A x1 x2).1 = 0 → v = (rGiv A x1 x2).2.2) → moS (rGiv A x1 x2).2.1 u → post v u) : wp_Model_giveBack N μ x1 x2 post := by
  refine moT_giv hok hA N hN x1 x2 post (fun h v u e m => ?_) (fun r i a0 a1 e1 e2 hk v u e m => ?_) (fun r i a0 a1 e1 e2 hk u e m => ?_)
  · rw [rGiv_1 h] at hp; exact hp v u e no1 m
  · subst e1 e2; rw [rGiv_2 hok a0 a1 hk] at hp; exact hp v u e no2 m
  · subst e1 e2; rw [rGiv_0 hok a0 a1 hk] at hp; exact hp _ u e (fun _ => rfl) m
