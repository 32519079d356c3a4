/-! what each call does, as a function of the state -/
noncomputable def cif {α : Type} (P : Prop) (a b : α) : α := @ite α P (Classical.propDecidable P) a b
theorem cif_pos {α : Type} {P : Prop} {a b : α} (h : P) : cif P a b = a := @if_pos P (Classical.propDecidable P) h α a b
theorem cif_neg {α : Type} {P : Prop} {a b : α} (h : ¬ P) : cif P a b = b := @if_neg P (Classical.propDecidable P) h α a b
abbrev RT : Type := Int32 × AS × Int32
def cN (x : Int32) : Nat := x.toNatClampNeg
theorem cN_nI {n : Nat} (h : n < 2 ^ 31) : cN (nI n) = n := nI_clamp h
noncomputable def rArt (A : AS) (x1 x2 x3 : Int32) : RT := cif (rg 0 12 x1 ∧ rg 1 100001 x2 ∧ rg 0 4 x3) (cif (Az A = 0) (0, aArt A (cN x1) (cN x2) (cN x3), 0) (2, A, 0)) (1, A, 0)
theorem rArt_1 {A : AS} {x1 x2 x3 : Int32} (h : ¬ (rg 0 12 x1 ∧ rg 1 100001 x2 ∧ rg 0 4 x3)) : rArt A x1 x2 x3 = (1, A, 0) := cif_neg h
theorem rArt_2 {A : AS} {x1 x2 x3 : Int32} (h : rg 0 12 x1 ∧ rg 1 100001 x2 ∧ rg 0 4 x3) (hz : Az A ≠ 0) : rArt A x1 x2 x3 = (2, A, 0) := (cif_pos h).trans (cif_neg hz)
theorem rArt_0 {A : AS} {i c x : Nat} (h1 : i < 12) (h2 : 1 ≤ c) (h3 : c ≤ 100000) (h4 : x ≤ 3) (hz : Az A = 0) : rArt A (nI i) (nI c) (nI x) = (0, aArt A i c x, 0) := by
  unfold rArt
  rw [cif_pos ⟨rg_of (by omega) h1, rg_of h2 (by omega), rg_of (by omega) (by omega)⟩, cif_pos hz, cN_nI (n := i) (by omega), cN_nI (n := c) (by omega), cN_nI (n := x) (by omega)]
theorem clR_art {A : AS} {θ β τ : St} {ω : Nat → St} {π : St} (hok : okS A) (hA : clS A θ β τ ω π) (N : Nat) (x1 x2 x3 : Int32) (post : Int32 → St × St → Prop) (hp : ∀ θ2 τ2, okS (rArt A x1 x2 x3).2.1 → clS (rArt A x1 x2 x3).2.1 θ2 β τ2 ω π → post (rArt A x1 x2 x3).1 (θ2, τ2)) : wp_Law_article N θ β τ x1 x2 x3 post := by
  refine clT_art hA N x1 x2 x3 post (fun h => ?_) (fun h hz => ?_) (fun i c x a1 a2 a3 a4 e1 e2 e3 hz θ2 τ2 h => ?_)
  · rw [rArt_1 h] at hp; exact hp θ τ hok hA
  · rw [rArt_2 h hz] at hp; exact hp θ τ hok hA
  · subst e1 e2 e3; rw [rArt_0 a1 a2 a3 a4 hz] at hp; exact hp θ2 τ2 (ok_aArt hok hz a3 a4) h
theorem moR_art {A : AS} {μ : St} (hok : okS A) (hA : moS A μ) (N : Nat) (x1 x2 x3 : Int32) (post : St → Prop) (hp : ∀ u, u 39 0 = (rArt A x1 x2 x3).1 → moS (rArt A x1 x2 x3).2.1 u → post u) : wp_Model_article N μ x1 x2 x3 post := by
  refine moT_art hok hA N x1 x2 x3 post (fun h u => ?_) (fun h hz u => ?_) (fun i c x a1 a2 a3 a4 e1 e2 e3 hz u => ?_)
  · rw [rArt_1 h] at hp; exact hp u
  · rw [rArt_2 h hz] at hp; exact hp u
  · subst e1 e2 e3; rw [rArt_0 a1 a2 a3 a4 hz] at hp; exact hp u
noncomputable def rOff (A : AS) (x1 x2 x3 x4 x5 : Int32) : RT := cif (gOff x1 x2 x3 x4 x5) (cif (Az A = 0) (0, aOff A (cN x1) (upO (AOs A (cN x1)) (cN x2) (cN x3) (cN x4) (cN x5)), 0) (2, A, 0)) (1, A, 0)
theorem rOff_1 {A : AS} {x1 x2 x3 x4 x5 : Int32} (h : ¬ gOff x1 x2 x3 x4 x5) : rOff A x1 x2 x3 x4 x5 = (1, A, 0) := cif_neg h
theorem rOff_2 {A : AS} {x1 x2 x3 x4 x5 : Int32} (h : gOff x1 x2 x3 x4 x5) (hz : Az A ≠ 0) : rOff A x1 x2 x3 x4 x5 = (2, A, 0) := (cif_pos h).trans (cif_neg hz)
theorem rOff_0 {A : AS} {i k n v m : Nat} (h1 : i < 6) (h2 : k ≤ 3) (h3 : 2 ≤ n) (h4 : n ≤ 4) (h5 : v ≤ 400000) (h6 : m ≤ 5) (hz : Az A = 0) : rOff A (nI i) (nI k) (nI n) (nI v) (nI m) = (0, aOff A i (upO (AOs A i) k n v m), 0) := by
  unfold rOff
  rw [cif_pos ⟨rg_of (by omega) h1, rg_of (by omega) (by omega), rg_of h3 (by omega), rg_of (by omega) (by omega), rg_of (by omega) (by omega)⟩, cif_pos hz, cN_nI (n := i) (by omega), cN_nI (n := k) (by omega), cN_nI (n := n) (by omega), cN_nI (n := v) (by omega), cN_nI (n := m) (by omega)]
theorem clR_off {A : AS} {θ β τ : St} {ω : Nat → St} {π : St} (hok : okS A) (hA : clS A θ β τ ω π) (N : Nat) (x1 x2 x3 x4 x5 : Int32) (post : Int32 → (Nat → St) → Prop) (hp : ∀ ω2, okS (rOff A x1 x2 x3 x4 x5).2.1 → clS (rOff A x1 x2 x3 x4 x5).2.1 θ β τ ω2 π → post (rOff A x1 x2 x3 x4 x5).1 ω2) : wp_Law_offer N θ β τ ω x1 x2 x3 x4 x5 post := by
  refine clT_off hA N x1 x2 x3 x4 x5 post (fun h => ?_) (fun h hz => ?_) (fun i k n v m a1 a2 a3 a4 a5 a6 e1 e2 e3 e4 e5 hz ω2 h ho => ?_)
  · rw [rOff_1 h] at hp; exact hp ω hok hA
  · rw [rOff_2 h hz] at hp; exact hp ω hok hA
  · subst e1 e2 e3 e4 e5; rw [rOff_0 a1 a2 a3 a4 a5 a6 hz] at hp; exact hp ω2 (ok_aOff hok hz ho) h
theorem moR_off {A : AS} {μ : St} (hok : okS A) (hA : moS A μ) (N : Nat) (x1 x2 x3 x4 x5 : Int32) (post : St → Prop) (hp : ∀ u, u 39 0 = (rOff A x1 x2 x3 x4 x5).1 → moS (rOff A x1 x2 x3 x4 x5).2.1 u → post u) : wp_Model_offer N μ x1 x2 x3 x4 x5 post := by
  refine moT_off hok hA N x1 x2 x3 x4 x5 post (fun h u => ?_) (fun h hz u => ?_) (fun i k n v m a1 a2 a3 a4 a5 a6 e1 e2 e3 e4 e5 hz u => ?_)
  · rw [rOff_1 h] at hp; exact hp u
  · rw [rOff_2 h hz] at hp; exact hp u
  · subst e1 e2 e3 e4 e5; rw [rOff_0 a1 a2 a3 a4 a5 a6 hz] at hp; exact hp u
noncomputable def rMem (A : AS) (x1 x2 x3 x4 : Int32) : RT := cif (gMem x1 x2 x3) (cif (Az A = 0) (0, aOff A (cN x1) (upS (AOs A (cN x1)) (cN x2) (mb (AOs A (cN x1) (5 + cN x2)) (cN x3) x4)), 0) (2, A, 0)) (1, A, 0)
theorem rMem_1 {A : AS} {x1 x2 x3 x4 : Int32} (h : ¬ gMem x1 x2 x3) : rMem A x1 x2 x3 x4 = (1, A, 0) := cif_neg h
theorem rMem_2 {A : AS} {x1 x2 x3 x4 : Int32} (h : gMem x1 x2 x3) (hz : Az A ≠ 0) : rMem A x1 x2 x3 x4 = (2, A, 0) := (cif_pos h).trans (cif_neg hz)
theorem rMem_0 {A : AS} {i s a : Nat} {x4 : Int32} (h1 : i < 6) (h2 : s < 4) (h3 : a < 12) (hz : Az A = 0) : rMem A (nI i) (nI s) (nI a) x4 = (0, aOff A i (upS (AOs A i) s (mb (AOs A i (5 + s)) a x4)), 0) := by
  unfold rMem
  rw [cif_pos ⟨rg_of (by omega) h1, rg_of (by omega) h2, rg_of (by omega) h3⟩, cif_pos hz, cN_nI (n := i) (by omega), cN_nI (n := s) (by omega), cN_nI (n := a) (by omega)]
theorem clR_mem {A : AS} {θ β τ : St} {ω : Nat → St} {π : St} (hok : okS A) (hA : clS A θ β τ ω π) (N : Nat) (x1 x2 x3 x4 : Int32) (post : Int32 → (Nat → St) → Prop) (hp : ∀ ω2, okS (rMem A x1 x2 x3 x4).2.1 → clS (rMem A x1 x2 x3 x4).2.1 θ β τ ω2 π → post (rMem A x1 x2 x3 x4).1 ω2) : wp_Law_member N θ β τ ω x1 x2 x3 x4 post := by
  refine clT_mem hA N x1 x2 x3 x4 post (fun h => ?_) (fun h hz => ?_) (fun i s a a1 a2 a3 e1 e2 e3 hz ω2 h ho => ?_)
  · rw [rMem_1 h] at hp; exact hp ω hok hA
  · rw [rMem_2 h hz] at hp; exact hp ω hok hA
  · subst e1 e2 e3; rw [rMem_0 a1 a2 a3 hz] at hp; exact hp ω2 (ok_aOff hok hz ho) h
theorem moR_mem {A : AS} {μ : St} (hok : okS A) (hA : moS A μ) (N : Nat) (x1 x2 x3 x4 : Int32) (post : St → Prop) (hp : ∀ u, u 39 0 = (rMem A x1 x2 x3 x4).1 → moS (rMem A x1 x2 x3 x4).2.1 u → post u) : wp_Model_member N μ x1 x2 x3 x4 post := by
  refine moT_mem hok hA N x1 x2 x3 x4 post (fun h u => ?_) (fun h hz u => ?_) (fun i s a a1 a2 a3 e1 e2 e3 hz u => ?_)
  · rw [rMem_1 h] at hp; exact hp u
  · rw [rMem_2 h hz] at hp; exact hp u
  · subst e1 e2 e3; rw [rMem_0 a1 a2 a3 hz] at hp; exact hp u
noncomputable def rRun (A : AS) (x1 : Int32) (v : Nat) : RT := cif (rg 0 6 x1) (cif (Az A = 0) (0, aOff A (cN x1) (upR (AOs A (cN x1)) v), 0) (2, A, 0)) (1, A, 0)
theorem rRun_1 {A : AS} {x1 : Int32} {v : Nat} (h : ¬ rg 0 6 x1) : rRun A x1 v = (1, A, 0) := cif_neg h
theorem rRun_2 {A : AS} {x1 : Int32} {v : Nat} (h : rg 0 6 x1) (hz : Az A ≠ 0) : rRun A x1 v = (2, A, 0) := (cif_pos h).trans (cif_neg hz)
theorem rRun_0 {A : AS} {i v : Nat} (h1 : i < 6) (hz : Az A = 0) : rRun A (nI i) v = (0, aOff A i (upR (AOs A i) v), 0) := by
  unfold rRun
  rw [cif_pos (rg_of (by omega) h1), cif_pos hz, cN_nI (n := i) (by omega)]
theorem clR_run {A : AS} {θ β τ : St} {ω : Nat → St} {π : St} (hok : okS A) (hA : clS A θ β τ ω π) (N : Nat) (x1 : Int32) {v : Nat} (hv : v ≤ 1) (post : Int32 → (Nat → St) → Prop) (hp : ∀ ω2, okS (rRun A x1 v).2.1 → clS (rRun A x1 v).2.1 θ β τ ω2 π → post (rRun A x1 v).1 ω2) : wp_Law_run N θ β τ ω x1 (nI v) post := by
  refine clT_run hA N x1 hv post (fun h => ?_) (fun h hz => ?_) (fun i a1 e1 hz ω2 h ho => ?_)
  · rw [rRun_1 h] at hp; exact hp ω hok hA
  · rw [rRun_2 h hz] at hp; exact hp ω hok hA
  · subst e1; rw [rRun_0 a1 hz] at hp; exact hp ω2 (ok_aOff hok hz ho) h
theorem moR_run {A : AS} {μ : St} (hok : okS A) (hA : moS A μ) (N : Nat) (x1 : Int32) {v : Nat} (hv : v ≤ 1) (post : St → Prop) (hp : ∀ u, u 39 0 = (rRun A x1 v).1 → moS (rRun A x1 v).2.1 u → post u) : wp_Model_run N μ x1 (nI v) post := by
  refine moT_run hok hA N x1 hv post (fun h u => ?_) (fun h hz u => ?_) (fun i a1 e1 hz u => ?_)
  · rw [rRun_1 h] at hp; exact hp u
  · rw [rRun_2 h hz] at hp; exact hp u
  · subst e1; rw [rRun_0 a1 hz] at hp; exact hp u
