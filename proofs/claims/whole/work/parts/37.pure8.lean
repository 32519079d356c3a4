/-! does a use fit -/
def wnt (A : Nat → Nat) : Nat → Nat
  | 0 => 1
  | p + 1 => if A (p + 1) = A p then wnt A p + 1 else 1
def fitsN (v A : Nat → Nat) : Nat → Bool
  | 0 => true
  | p + 1 => fitsN v A p && decide (wnt A p ≤ v (A p))
theorem wnt_le (A : Nat → Nat) : ∀ p, wnt A p ≤ p + 1 := by
  intro p
  induction p with
  | zero => exact Nat.le_refl _
  | succ p ih => unfold wnt; split <;> omega
theorem fitsN_mono {v A : Nat → Nat} {p : Nat} : ∀ q, p ≤ q → fitsN v A p = false → fitsN v A q = false := by
  intro q hpq hp
  induction q with
  | zero =>
    have : p = 0 := by omega
    subst this; exact hp
  | succ q ih =>
    by_cases h : p = q + 1
    · subst h; exact hp
    · unfold fitsN; rw [ih (by omega)]; rfl
theorem neM1 {a : Nat} (ha : a < 100) : ¬ nI a = -1 := by
  intro h
  have h1 := congrArg Int32.toInt h
  rw [nI_toInt (by omega)] at h1
  have h2 : ((-1 : Int32)).toInt = -1 := by decide
  rw [h2] at h1
  omega
theorem pf_fits39 (N : Nat) {κ υ : St} {v : Nat → Nat} (hv : ∀ d, d < 18 → κ 2 d = nI (v d) ∧ v d < 100) {j o len a0 a1 a2 a3 : Nat} (hj : j < 1260) (h : υ 0 j = nI (pkd o len a0 a1 a2 a3)) (ok : okP o len a0 a1 a2 a3) (post : Int32 → Unit → Prop)
    (hp : post (nI (if fitsN v (ap a0 a1 a2 a3) len then 1 else 0)) ()) : ∀ (n p : Nat) (x3 x4 : Int32), p ≤ len → len - p < n → fitsN v (ap a0 a1 a2 a3) p = true → ((p = 0 ∧ x3 = -1) ∨ ∃ q, p = q + 1 ∧ x3 = nI (ap a0 a1 a2 a3 q) ∧ x4 = nI (wnt (ap a0 a1 a2 a3) q)) → wp_Planner_fits_39 N κ υ post n (nI j) x3 x4 (nI p) := by
  have hlen := ok.2.1
  have hap : ∀ p, ap a0 a1 a2 a3 p < 12 := by
    obtain ⟨-, -, h3, h4, h5, h6⟩ := ok
    intro p
    unfold ap
    split
    · exact h3
    · split
      · exact h4
      · split
        · exact h5
        · exact h6
  intro n
  induction n with
  | zero => intro p x3 x4 _ h2; omega
  | succ n ih =>
    intro p x3 x4 hpl hn hf hx
    rw [wp_Planner_fits_39]
    refine pf_unitsOf N hj h ok _ ⟨fun hc => ?_, fun hc => ?_⟩
    · rw [leL (by omega) (by omega)] at hc
      have : p = len := by omega
      subst this
      rw [hf] at hp; exact hp
    · rw [leL (by omega) (by omega)] at hc
      refine pf_articleOf N hj (by omega) h ok _ ?_
      have hA := hap p
      have hw := wnt_le (ap a0 a1 a2 a3) p
      have step : wp_Planner_fits_78 N κ υ post (wp_Planner_fits_39 N κ υ post n) (nI j) (nI p) (nI (ap a0 a1 a2 a3 p)) (nI (wnt (ap a0 a1 a2 a3) p)) := by
        unfold wp_Planner_fits_78
        have hvp := hv (ap a0 a1 a2 a3 p) (by omega)
        rw [nI_clamp (by omega), hvp.1, leL (by omega) (by omega)]
        refine ⟨vp_in_nI (by omega) (by decide), fun hq => ?_, fun hq => ?_⟩
        · rw [nI_1]
          refine ih (p + 1) _ _ (by omega) (by omega) ?_ (Or.inr ⟨p, rfl, rfl, rfl⟩)
          unfold fitsN
          rw [hf]; simp; exact hq
        · have h1 : fitsN v (ap a0 a1 a2 a3) (p + 1) = false := by
            unfold fitsN
            rw [hf]; simp; omega
          rw [fitsN_mono len (by omega) h1] at hp
          exact hp
      rcases hx with ⟨rfl, rfl⟩ | ⟨q, rfl, rfl, rfl⟩
      · exact ⟨fun _ => step, fun he => absurd he (neM1 (by omega))⟩
      · have hq12 := hap q
        rw [eqL (by omega) (by omega), nI_1]
        refine ⟨fun he => ?_, fun he => ?_⟩
        · have e1 : wnt (ap a0 a1 a2 a3) (q + 1) = 1 := by
            show (if _ then _ else _) = 1
            rw [if_neg he]
          rw [e1] at step
          exact step
        · have e1 : wnt (ap a0 a1 a2 a3) (q + 1) = wnt (ap a0 a1 a2 a3) q + 1 := by
            show (if _ then _ else _) = _
            rw [if_pos he]
          rw [e1] at step
          exact step
def fitsU (t v : Nat → Nat) (o len : Nat) (A : Nat → Nat) : Bool := decide (t (12 + o) = 0 ∨ 0 < v (12 + o)) && fitsN v A len
theorem pf_fits (N : Nat) (hN : 5 ≤ N) {κ υ : St} {t v : Nat → Nat} (ht : ∀ d, d < 18 → κ 0 d = nI (t d) ∧ t d < 100) (hv : ∀ d, d < 18 → κ 2 d = nI (v d) ∧ v d < 100) {j o len a0 a1 a2 a3 : Nat} (hj : j < 1260) (h : υ 0 j = nI (pkd o len a0 a1 a2 a3)) (ok : okP o len a0 a1 a2 a3) (post : Int32 → Unit → Prop)
    (hp : post (nI (if fitsU t v o len (ap a0 a1 a2 a3) then 1 else 0)) ()) : wp_Planner_fits N κ υ (nI j) post := by
  have ho := ok.1
  have hlen := ok.2.1
  unfold wp_Planner_fits
  refine pf_offerOf N hj h ok _ ?_
  have hto := ht (12 + o) (by omega)
  have hvo := hv (12 + o) (by omega)
  refine pf_isLimited N υ ho hto.1 hto.2 _ ?_
  have go : (t (12 + o) = 0 ∨ 0 < v (12 + o)) → wp_Planner_fits_31 N κ υ post (nI j) := by
    intro hc
    unfold wp_Planner_fits_31
    refine pf_fits39 N hv hj h ok post ?_ N 0 _ _ (by omega) (by omega) rfl (Or.inl ⟨rfl, rfl⟩)
    unfold fitsU at hp
    rw [show decide (t (12 + o) = 0 ∨ 0 < v (12 + o)) = true by simp; exact hc, Bool.true_and] at hp
    exact hp
  by_cases h0 : 0 < t (12 + o)
  · rw [if_pos h0]
    refine ⟨fun hq => absurd hq (by decide), fun _ => ?_⟩
    rw [show (12 : Int32) = nI 12 from rfl, nI_add, nI_clamp (by omega), hvo.1, show (0 : Int32) = nI 0 from rfl, eqL (by omega) (by omega)]
    refine ⟨vp_in_nI (by omega) (by decide), fun hz => go (Or.inr (by omega)), fun hz => ?_⟩
    unfold fitsU at hp
    rw [show decide (t (12 + o) = 0 ∨ 0 < v (12 + o)) = false by simp; omega, Bool.false_and] at hp
    exact hp
  · rw [if_neg h0]
    exact ⟨fun _ => go (Or.inl (by omega)), fun hq => absurd rfl hq⟩
