/-! what each call does (2): scan .. tryOffer -/
abbrev rmS (A : AS) (x1 : Int32) : Nat := str (tp (AOs A) (nB (fup (Ab A) (Az A) (cN x1))) (Az A + 1)) 18
noncomputable def rScan (A : AS) (x1 : Int32) : RT := cif (rg 0 12 x1) (cif (Az A = 10) (2, A, 0) (cif (rmS A x1 ≤ 3000) (0, aBas A (fup (Ab A) (Az A) (cN x1)) (Az A + 1), nI (Az A + 1)) (2, A, 0))) (1, A, 0)
theorem rScan_1 {A : AS} {x1 : Int32} (h : ¬ rg 0 12 x1) : rScan A x1 = (1, A, 0) := cif_neg h
theorem rScan_2 {A : AS} {x1 : Int32} (h : rg 0 12 x1) (hz : Az A = 10) : rScan A x1 = (2, A, 0) := (cif_pos h).trans (cif_pos hz)
theorem rScan_3 {A : AS} {a : Nat} (h : a < 12) (hz : Az A < 10) (hr : 3000 < str (tp (AOs A) (nB (fup (Ab A) (Az A) a)) (Az A + 1)) 18) : rScan A (nI a) = (2, A, 0) := by
  unfold rScan rmS
  rw [cif_pos (rg_of (by omega) h), cif_neg (by omega), cN_nI (n := a) (by omega), cif_neg (by omega)]
theorem rScan_0 {A : AS} {a : Nat} (h : a < 12) (hz : Az A < 10) (hr : str (tp (AOs A) (nB (fup (Ab A) (Az A) a)) (Az A + 1)) 18 ≤ 3000) : rScan A (nI a) = (0, aBas A (fup (Ab A) (Az A) a) (Az A + 1), nI (Az A + 1)) := by
  unfold rScan rmS
  rw [cif_pos (rg_of (by omega) h), cif_neg (by omega), cN_nI (n := a) (by omega), cif_pos hr]
theorem no1 {P : Prop} (h : (1 : Int32) = 0) : P := absurd h (by decide)
theorem no2 {P : Prop} (h : (2 : Int32) = 0) : P := absurd h (by decide)
theorem no3 {P : Prop} (h : (3 : Int32) = 0) : P := absurd h (by decide)
theorem clR_scan {A : AS} {θ β τ : St} {ω : Nat → St} {π : St} (κ υ : St) (ο : Nat → Int64) (hok : okS A) (hA : clS A θ β τ ω π) (N : Nat) (hN : 19 ≤ N) (x1 : Int32) (post : Int32 → (St × St × St × (Nat → Int64)) → Prop) (hp : ∀ θ2 β2 κ2 ο2, okS (rScan A x1).2.1 → clS (rScan A x1).2.1 θ2 β2 τ ω π → ((rScan A x1).1 = 0 → ο2 0 = Int32.toInt64 (rScan A x1).2.2) → post (rScan A x1).1 (θ2, β2, κ2, ο2)) : wp_Law_scan N θ β τ ω κ υ ο x1 post := by
  refine clT_scan κ υ ο hok hA N hN x1 post (fun h => ?_) (fun h hz => ?_) (fun a a1 e1 hz hr β2 κ2 h => ?_) (fun a a1 e1 hz hr θ2 β2 κ2 ο2 eo h => ?_)
  · rw [rScan_1 h] at hp; exact hp θ β κ ο hok hA no1
  · rw [rScan_2 h hz] at hp; exact hp θ β κ ο hok hA no2
  · subst e1; rw [rScan_3 a1 hz hr] at hp; exact hp θ β2 κ2 ο hok h no2
  · subst e1; rw [rScan_0 a1 hz hr] at hp; exact hp θ2 β2 κ2 ο2 (ok_scan hok a1 hz hr) h (fun _ => eo)
theorem moR_scan {A : AS} {μ : St} (hok : okS A) (hA : moS A μ) (N : Nat) (hN : 13 ≤ N) (x1 : Int32) (post : Int32 → St → Prop) (hp : ∀ v u, u 39 0 = (rScan A x1).1 → ((rScan A x1).1 = 0 → v = (rScan A x1).2.2) → moS (rScan A x1).2.1 u → post v u) : wp_Model_scan N μ x1 post := by
  refine moT_scan hok hA N hN x1 post (fun h v u e m => ?_) (fun h hz v u e m => ?_) (fun a a1 e1 hz hr v u e m => ?_) (fun a a1 e1 hz hr u e m => ?_)
  · rw [rScan_1 h] at hp; exact hp v u e no1 m
  · rw [rScan_2 h hz] at hp; exact hp v u e no2 m
  · subst e1; rw [rScan_3 a1 hz hr] at hp; exact hp v u e no2 m
  · subst e1; rw [rScan_0 a1 hz hr] at hp; exact hp _ u e (fun _ => rfl) m
noncomputable def rUns (A : AS) (x1 : Int32) : RT := cif (rg 0 (Az A) x1) (0, aBas A (rmv (Ab A) (cN x1)) (Az A - 1), nI (Ab A (cN x1))) (1, A, 0)
theorem rUns_1 {A : AS} {x1 : Int32} (h : ¬ rg 0 (Az A) x1) : rUns A x1 = (1, A, 0) := cif_neg h
theorem rUns_0 {A : AS} {i : Nat} (hz : Az A ≤ 10) (h : i < Az A) : rUns A (nI i) = (0, aBas A (rmv (Ab A) i) (Az A - 1), nI (Ab A i)) := by
  unfold rUns
  rw [cif_pos (rg_of (by omega) h), cN_nI (n := i) (by omega)]
theorem clR_uns {A : AS} {θ β τ : St} {ω : Nat → St} {π : St} (ο : Nat → Int64) (hok : okS A) (hA : clS A θ β τ ω π) (N : Nat) (hN : 12 ≤ N) (x1 : Int32) (post : Int32 → (St × St × (Nat → Int64)) → Prop) (hp : ∀ θ2 β2 ο2, okS (rUns A x1).2.1 → clS (rUns A x1).2.1 θ2 β2 τ ω π → ((rUns A x1).1 = 0 → ο2 0 = Int32.toInt64 (rUns A x1).2.2) → post (rUns A x1).1 (θ2, β2, ο2)) : wp_Law_unscan N θ β ο x1 post := by
  refine clT_unscan (τ := τ) (ω := ω) (π := π) ο hok hA N hN x1 post (fun h => ?_) (fun i a1 e1 θ2 β2 ο2 eo h => ?_)
  · rw [rUns_1 h] at hp; exact hp θ β ο hok hA no1
  · subst e1; rw [rUns_0 hok.hz a1] at hp; exact hp θ2 β2 ο2 (ok_unscan hok a1) h (fun _ => eo)
theorem moR_uns {A : AS} {μ : St} (hok : okS A) (hA : moS A μ) (N : Nat) (hN : 12 ≤ N) (x1 : Int32) (post : Int32 → St → Prop) (hp : ∀ v u, u 39 0 = (rUns A x1).1 → ((rUns A x1).1 = 0 → v = (rUns A x1).2.2) → moS (rUns A x1).2.1 u → post v u) : wp_Model_unscan N μ x1 post := by
  refine moT_unscan hok hA N hN x1 post (fun h v u e m => ?_) (fun i a1 e1 u e m => ?_)
  · rw [rUns_1 h] at hp; exact hp v u e no1 m
  · subst e1; rw [rUns_0 hok.hz a1] at hp; exact hp _ u e (fun _ => rfl) m
noncomputable def rTot (A : AS) (x1 : Int32) : RT := cif (rg 0 3 x1) (0, A, vTot A (cN x1)) (1, A, 0)
theorem rTot_1 {A : AS} {x1 : Int32} (h : ¬ rg 0 3 x1) : rTot A x1 = (1, A, 0) := cif_neg h
theorem rTot_0 {A : AS} {x : Nat} (h : x < 3) : rTot A (nI x) = (0, A, vTot A x) := by
  unfold rTot
  rw [cif_pos (rg_of (by omega) h), cN_nI (n := x) (by omega)]
theorem clR_tot {A : AS} {θ β τ : St} {ω : Nat → St} {π : St} (κ υ : St) (ρ ο : Nat → Int64) (hok : okS A) (hA : clS A θ β τ ω π) (N : Nat) (hN : 100001 ≤ N) {st : Nat} (hS : repS υ st) (hst : st + 6 < 2 ^ 30) (x1 : Int32) (post : Int32 → (St × St × St × St × (Nat → Int64) × (Nat → Int64)) → Prop)
    (hp : ∀ θ2 κ2 υ2 π2 ρ2 ο2 st2, st2 ≤ st + 6 → repS υ2 st2 → okS (rTot A x1).2.1 → clS (rTot A x1).2.1 θ2 β τ ω π2 → ((rTot A x1).1 = 0 → ο2 0 = Int32.toInt64 (rTot A x1).2.2) → post (rTot A x1).1 (θ2, κ2, υ2, π2, ρ2, ο2)) : wp_Law_total N θ β τ ω κ υ π ρ ο x1 post := by
  refine clT_total κ υ ρ ο hok hA N hN hS hst x1 post (fun h => ?_) (fun x a1 e1 θ2 κ2 υ2 π2 ρ2 ο2 st2 g1 g2 g3 eo => ?_)
  · rw [rTot_1 h] at hp; exact hp θ κ υ π ρ ο st (by omega) hS hok hA no1
  · subst e1; rw [rTot_0 a1] at hp; exact hp θ2 κ2 υ2 π2 ρ2 ο2 st2 g1 g2 hok g3 (fun _ => eo)
theorem moR_tot {A : AS} {μ : St} (hok : okS A) (hA : moS A μ) (N : Nat) (hN : 100001 ≤ N) (x1 : Int32) (post : Int32 → St → Prop) (hp : ∀ v u, u 39 0 = (rTot A x1).1 → ((rTot A x1).1 = 0 → v = (rTot A x1).2.2) → moS (rTot A x1).2.1 u → post v u) : wp_Model_total N μ x1 post := by
  refine moT_total hok hA N hN x1 post (fun h v u e m => ?_) (fun x a1 e1 u e m => ?_)
  · rw [rTot_1 h] at hp; exact hp v u e no1 m
  · subst e1; rw [rTot_0 a1] at hp; exact hp _ u e (fun _ => rfl) m
noncomputable def rUni (A : AS) (x1 x2 : Int32) : RT := cif (rg 0 (Az A) x1) (cif (rg 0 4 x2) (0, A, vUnit A (cN x1) (cN x2)) (2, A, 0)) (1, A, 0)
theorem rUni_1 {A : AS} {x1 x2 : Int32} (h : ¬ rg 0 (Az A) x1) : rUni A x1 x2 = (1, A, 0) := cif_neg h
theorem rUni_2 {A : AS} {x1 x2 : Int32} (h : rg 0 (Az A) x1) (h2 : ¬ rg 0 4 x2) : rUni A x1 x2 = (2, A, 0) := (cif_pos h).trans (cif_neg h2)
theorem rUni_0 {A : AS} {i x : Nat} (hz : Az A ≤ 10) (h : i < Az A) (h2 : x < 4) : rUni A (nI i) (nI x) = (0, A, vUnit A i x) := by
  unfold rUni
  rw [cif_pos (rg_of (by omega) h), cif_pos (rg_of (by omega) h2), cN_nI (n := i) (by omega), cN_nI (n := x) (by omega)]
theorem clR_uni {A : AS} {θ β τ : St} {ω : Nat → St} {π : St} (κ υ : St) (ρ ο : Nat → Int64) (hok : okS A) (hA : clS A θ β τ ω π) (N : Nat) (hN : 100001 ≤ N) {st : Nat} (hS : repS υ st) (hst : st + 6 < 2 ^ 30) (x1 x2 : Int32) (post : Int32 → (St × St × St × St × (Nat → Int64) × (Nat → Int64)) → Prop)
    (hp : ∀ θ2 κ2 υ2 π2 ρ2 ο2 st2, st2 ≤ st + 6 → repS υ2 st2 → okS (rUni A x1 x2).2.1 → clS (rUni A x1 x2).2.1 θ2 β τ ω π2 → ((rUni A x1 x2).1 = 0 → ο2 0 = Int32.toInt64 (rUni A x1 x2).2.2) → post (rUni A x1 x2).1 (θ2, κ2, υ2, π2, ρ2, ο2)) : wp_Law_unit N θ β τ ω κ υ π ρ ο x1 x2 post := by
  refine clT_unit κ υ ρ ο hok hA N hN hS hst x1 x2 post (fun h => ?_) (fun h h2 => ?_) (fun i x a1 a2 e1 e2 θ2 κ2 υ2 π2 ρ2 ο2 st2 g1 g2 g3 eo => ?_)
  · rw [rUni_1 h] at hp; exact hp θ κ υ π ρ ο st (by omega) hS hok hA no1
  · rw [rUni_2 h h2] at hp; exact hp θ κ υ π ρ ο st (by omega) hS hok hA no2
  · subst e1 e2; rw [rUni_0 hok.hz a1 a2] at hp; exact hp θ2 κ2 υ2 π2 ρ2 ο2 st2 g1 g2 hok g3 (fun _ => eo)
theorem moR_uni {A : AS} {μ : St} (hok : okS A) (hA : moS A μ) (N : Nat) (hN : 100001 ≤ N) (x1 x2 : Int32) (post : Int32 → St → Prop) (hp : ∀ v u, u 39 0 = (rUni A x1 x2).1 → ((rUni A x1 x2).1 = 0 → v = (rUni A x1 x2).2.2) → moS (rUni A x1 x2).2.1 u → post v u) : wp_Model_unit N μ x1 x2 post := by
  refine moT_unit hok hA N hN x1 x2 post (fun h v u e m => ?_) (fun h h2 v u e m => ?_) (fun i x a1 a2 e1 e2 u e m => ?_)
  · rw [rUni_1 h] at hp; exact hp v u e no1 m
  · rw [rUni_2 h h2] at hp; exact hp v u e no2 m
  · subst e1 e2; rw [rUni_0 hok.hz a1 a2] at hp; exact hp _ u e (fun _ => rfl) m
noncomputable def rTax (A : AS) (x1 : Int32) : RT := cif (rg 0 4 x1) (0, A, vTax A (cN x1)) (1, A, 0)
theorem rTax_1 {A : AS} {x1 : Int32} (h : ¬ rg 0 4 x1) : rTax A x1 = (1, A, 0) := cif_neg h
theorem rTax_0 {A : AS} {x : Nat} (h : x < 4) : rTax A (nI x) = (0, A, vTax A x) := by
  unfold rTax
  rw [cif_pos (rg_of (by omega) h), cN_nI (n := x) (by omega)]
theorem clR_tax {A : AS} {θ β τ : St} {ω : Nat → St} {π : St} (κ υ : St) (ρ ο : Nat → Int64) (hok : okS A) (hA : clS A θ β τ ω π) (N : Nat) (hN : 100001 ≤ N) {st : Nat} (hS : repS υ st) (hst : st + 6 < 2 ^ 30) (x1 : Int32) (post : Int32 → (St × St × St × St × (Nat → Int64) × (Nat → Int64)) → Prop)
    (hp : ∀ θ2 κ2 υ2 π2 ρ2 ο2 st2, st2 ≤ st + 6 → repS υ2 st2 → okS (rTax A x1).2.1 → clS (rTax A x1).2.1 θ2 β τ ω π2 → ((rTax A x1).1 = 0 → ο2 0 = Int32.toInt64 (rTax A x1).2.2) → post (rTax A x1).1 (θ2, κ2, υ2, π2, ρ2, ο2)) : wp_Law_tax N θ β τ ω κ υ π ρ ο x1 post := by
  refine clT_tax κ υ ρ ο hok hA N hN hS hst x1 post (fun h => ?_) (fun x a1 e1 θ2 κ2 υ2 π2 ρ2 ο2 st2 g1 g2 g3 eo => ?_)
  · rw [rTax_1 h] at hp; exact hp θ κ υ π ρ ο st (by omega) hS hok hA no1
  · subst e1; rw [rTax_0 a1] at hp; exact hp θ2 κ2 υ2 π2 ρ2 ο2 st2 g1 g2 hok g3 (fun _ => eo)
theorem moR_tax {A : AS} {μ : St} (hok : okS A) (hA : moS A μ) (N : Nat) (hN : 100001 ≤ N) (x1 : Int32) (post : Int32 → St → Prop) (hp : ∀ v u, u 39 0 = (rTax A x1).1 → ((rTax A x1).1 = 0 → v = (rTax A x1).2.2) → moS (rTax A x1).2.1 u → post v u) : wp_Model_tax N μ x1 post := by
  refine moT_tax hok hA N hN x1 post (fun h v u e m => ?_) (fun x a1 e1 u e m => ?_)
  · rw [rTax_1 h] at hp; exact hp v u e no1 m
  · subst e1; rw [rTax_0 a1] at hp; exact hp _ u e (fun _ => rfl) m
abbrev tyO (A : AS) (i : Nat) : Nat → Nat → Nat := oup (AOs A) i (upR (AOs A i) (flp (AOs A i 4)))
noncomputable def rTry (A : AS) (x1 : Int32) : RT := cif (rg 0 6 x1) (cif (str (tp (tyO A (cN x1)) (nB (Ab A)) (Az A)) 18 ≤ 3000) (0, A, nI (TL (tyO A (cN x1)) (AC A) (Ab A) (Az A))) (2, A, 0)) (1, A, 0)
theorem rTry_1 {A : AS} {x1 : Int32} (h : ¬ rg 0 6 x1) : rTry A x1 = (1, A, 0) := cif_neg h
theorem rTry_2 {A : AS} {i : Nat} (h : i < 6) (h2 : 3000 < str (tp (tyO A i) (nB (Ab A)) (Az A)) 18) : rTry A (nI i) = (2, A, 0) := by
  unfold rTry
  rw [cif_pos (rg_of (by omega) h), cN_nI (n := i) (by omega), cif_neg (by omega)]
theorem rTry_0 {A : AS} {i : Nat} (h : i < 6) (h2 : str (tp (tyO A i) (nB (Ab A)) (Az A)) 18 ≤ 3000) : rTry A (nI i) = (0, A, nI (TL (tyO A i) (AC A) (Ab A) (Az A))) := by
  unfold rTry
  rw [cif_pos (rg_of (by omega) h), cN_nI (n := i) (by omega), cif_pos h2]
theorem clR_try {A : AS} {θ β τ : St} {ω : Nat → St} {π : St} (κ υ : St) (ο : Nat → Int64) (hok : okS A) (hA : clS A θ β τ ω π) (N : Nat) (hN : 100001 ≤ N) {st : Nat} (hS : repS υ st) (hst : st + 6 < 2 ^ 30) (x1 : Int32) (post : Int32 → ((Nat → St) × St × St × (Nat → Int64)) → Prop)
    (hp : ∀ ω2 κ2 υ2 ο2 st2, st2 ≤ st + 6 → repS υ2 st2 → okS (rTry A x1).2.1 → clS (rTry A x1).2.1 θ β τ ω2 π → ((rTry A x1).1 = 0 → ο2 0 = Int32.toInt64 (rTry A x1).2.2) → post (rTry A x1).1 (ω2, κ2, υ2, ο2)) : wp_Law_tryOffer N θ β τ ω κ υ ο x1 post := by
  refine clT_try κ υ ο hok hA N hN hS hst x1 post (fun h => ?_) (fun i a1 e1 hr ω2 κ2 h => ?_) (fun i a1 e1 hr ω2 κ2 υ2 ο2 st2 g1 g2 g3 eo => ?_)
  · rw [rTry_1 h] at hp; exact hp ω κ υ ο st (by omega) hS hok hA no1
  · subst e1; rw [rTry_2 a1 hr] at hp; exact hp ω2 κ2 υ ο st (by omega) hS hok h no2
  · subst e1; rw [rTry_0 a1 hr] at hp; exact hp ω2 κ2 υ2 ο2 st2 g1 g2 hok g3 (fun _ => eo)
theorem moR_try {A : AS} {μ : St} (hok : okS A) (hA : moS A μ) (N : Nat) (hN : 100001 ≤ N) (x1 : Int32) (post : Int32 → St → Prop) (hp : ∀ v u, u 39 0 = (rTry A x1).1 → ((rTry A x1).1 = 0 → v = (rTry A x1).2.2) → moS (rTry A x1).2.1 u → post v u) : wp_Model_tryOffer N μ x1 post := by
  refine moT_try hok hA N hN x1 post (fun h v u e m => ?_) (fun i a1 e1 hr v u e m => ?_) (fun i a1 e1 hr u e m => ?_)
  · rw [rTry_1 h] at hp; exact hp v u e no1 m
  · subst e1; rw [rTry_2 a1 hr] at hp; exact hp v u e no2 m
  · subst e1; rw [rTry_0 a1 hr] at hp; exact hp _ u e (fun _ => rfl) m
