/-! receipt -/
def kc (k : Nat → Bool) : Nat → Nat
  | 0 => 0
  | n + 1 => kc k n + (if k n then 1 else 0)
theorem kc_le (k : Nat → Bool) : ∀ n, kc k n ≤ n := by
  intro n
  induction n with
  | zero => exact Nat.le_refl _
  | succ n ih => show kc k n + _ ≤ n + 1; split <;> omega
theorem kc_t {k : Nat → Bool} {n : Nat} (h : k n = true) : kc k (n + 1) = kc k n + 1 := by show kc k n + _ = _; rw [h]; rfl
theorem kc_f {k : Nat → Bool} {n : Nat} (h : k n = false) : kc k (n + 1) = kc k n := by show kc k n + _ = _; rw [h]; rfl
def vRec (A : AS) (r x : Nat) : Int32 := if x = 0 then nI (Arp A r) else if x = 1 then nI (Arr A r) else if x = 2 then nI (Arz A r) else nI (kc (Ark A r) (Arz A r))
theorem pf_keptCount (N : Nat) (hN : 11 ≤ N) {A : AS} {r : Nat} {χ β2 τ2 : St} {ω2 : Nat → St} (hc : rcS A r χ β2 τ2 ω2) (post : Int32 → Unit → Prop) (hp : post (nI (kc (Ark A r) (Arz A r))) ()) : wp_Rec_keptCount N χ β2 post := by
  obtain ⟨a1, a2, a3, a4, a5, a6⟩ := hc
  have hz := a1.1
  unfold wp_Rec_keptCount
  have loop : ∀ (n i : Nat), i ≤ Arz A r → Arz A r - i < n → wp_Rec_keptCount_4 N χ β2 post n (nI (kc (Ark A r) i)) (nI i) := by
    intro n
    induction n with
    | zero => intro i _ h; omega
    | succ n ih =>
      intro i hi hn
      rw [wp_Rec_keptCount_4, a1.2.1]
      refine pk_le (Arz A r) i (fun hq => ?_) (fun hq => ?_)
      · have : i = Arz A r := by omega
        subst this
        exact hp
      · rw [nI_clamp (by omega), (a4 i hq).2.2]
        unfold wp_Rec_keptCount_27
        rw [nI_1, nI_1]
        refine ⟨vp_in_nI (by omega) (by decide), fun h0 => ?_, fun h1 => ?_⟩
        · cases hk : Ark A r i with
          | true => rw [hk] at h0; exact absurd h0 (by decide)
          | false => rw [← kc_f hk]; exact ih (i + 1) (by omega) (by omega)
        · cases hk : Ark A r i with
          | true => rw [← kc_t hk]; exact ih (i + 1) (by omega) (by omega)
          | false => rw [hk] at h1; exact absurd rfl h1
  exact loop N 0 (by omega) (by omega)
theorem clT_rec {A : AS} (hok : okS A) (N : Nat) (hN : 11 ≤ N) {θ α : St} (ε : St) (ο : Nat → Int64) (hα : α 2 0 = nI (AR A)) (hθ : θ 8 0 = AD A) {r : Nat} (hr : r < AR A) {χ β2 τ2 : St} {ω2 : Nat → St} (hc : rcS A r χ β2 τ2 ω2) (x2 : Int32) (post : Int32 → (Nat → Int64) → Prop)
    (h1 : ¬ rg 0 6 x2 → post 1 ο)
    (h4 : x2 = nI 4 → ∀ ο2 : Nat → Int64, ο2 0 = Int32.toInt64 (nI (AR A)) → post 0 ο2)
    (h5 : x2 = nI 5 → ∀ ο2 : Nat → Int64, ο2 0 = Int32.toInt64 (AD A) → post 0 ο2)
    (h0 : ∀ x, x < 4 → x2 = nI x → ∀ ο2 : Nat → Int64, ο2 0 = Int32.toInt64 (vRec A r x) → post 0 ο2) : wp_Law_receipt N θ α ε χ β2 ο (nI r) x2 post := by
  obtain ⟨a1, a2, a3, a4, a5, a6⟩ := id hc
  have hR := hok.hR
  have hz := a1.1
  unfold wp_Law_receipt wp_Till_receipt
  refine pf_TwA N (lo := 0) (n := 6) (by decide) (by decide) (by decide) _ _ (fun x _ hx e2 => ?_) (fun hn => Or.inl ⟨rfl, h1 hn⟩)
  subst e2
  have fin : ∀ v w : Int32, v = w → (∀ ο2 : Nat → Int64, ο2 0 = Int32.toInt64 w → post 0 ο2) → (vp_in 0 1 ∧ (∀ ο4, ο4 = vp_updL ο (Int32.toNatClampNeg 0) (Int32.toInt64 v) → post 0 ο4)) := by
    intro v w ev hh
    refine ⟨vp_in_nI (n := 0) (by decide) (by decide), fun ο4 e4 => hh ο4 ?_⟩
    rw [e4, ev]
    exact upL_same ..
  refine (pk_eq x 4 (fun e => ?_) (fun e => (pk_eq x 5 (fun e1 => ?_) (fun e1 => ?_)).symm)).symm
  · unfold wp_AL_size
    exact fin _ _ hα (h4 (by rw [e]))
  · exact fin _ _ hθ (h5 (by rw [e1]))
  · refine pf_recAt N hR ε χ β2 hα hr _ _ ?_
    have hh := h0 x (by omega) rfl
    refine pk_eq x 0 (fun q0 => fin _ _ ?_ hh) (fun q0 => pk_eq x 1 (fun q1 => fin _ _ ?_ hh) (fun q1 => pk_eq x 2 (fun q2 => fin _ _ ?_ hh) (fun q2 => pf_keptCount N hN hc _ (fin _ _ ?_ hh))))
    · unfold vRec; rw [if_pos q0]; exact a5
    · unfold vRec; rw [if_neg q0, if_pos q1]; exact a6
    · unfold vRec; rw [if_neg q0, if_neg q1, if_pos q2]; exact a1.2.1
    · unfold vRec; rw [if_neg q0, if_neg q1, if_neg q2]
theorem clT_recN {A : AS} (hok : okS A) (N : Nat) {θ α : St} (ο : Nat → Int64) (hα : α 2 0 = nI (AR A)) (hθ : θ 8 0 = AD A) {x1 : Int32} (hr : ¬ rg 0 (AR A) x1) (x2 : Int32) (post : Int32 → (Nat → Int64) → Prop)
    (h1 : ¬ rg 0 6 x2 → post 1 ο)
    (h4 : x2 = nI 4 → ∀ ο2 : Nat → Int64, ο2 0 = Int32.toInt64 (nI (AR A)) → post 0 ο2)
    (h5 : x2 = nI 5 → ∀ ο2 : Nat → Int64, ο2 0 = Int32.toInt64 (AD A) → post 0 ο2)
    (h2 : ∀ x, x < 4 → x2 = nI x → post 2 ο) : wp_Law_receiptN N θ α ο x1 x2 post := by
  unfold wp_Law_receiptN wp_Till_receiptN
  refine pf_TwA N (lo := 0) (n := 6) (by decide) (by decide) (by decide) _ _ (fun x _ hx e2 => ?_) (fun hn => Or.inl ⟨rfl, h1 hn⟩)
  subst e2
  have fin : ∀ v w : Int32, v = w → (∀ ο2 : Nat → Int64, ο2 0 = Int32.toInt64 w → post 0 ο2) → (vp_in 0 1 ∧ (∀ ο4, ο4 = vp_updL ο (Int32.toNatClampNeg 0) (Int32.toInt64 v) → post 0 ο4)) := by
    intro v w ev hh
    refine ⟨vp_in_nI (n := 0) (by decide) (by decide), fun ο4 e4 => hh ο4 ?_⟩
    rw [e4, ev]
    exact upL_same ..
  refine (pk_eq x 4 (fun e => ?_) (fun e => (pk_eq x 5 (fun e1 => ?_) (fun e1 => ?_)).symm)).symm
  · unfold wp_AL_size
    exact fin _ _ hα (h4 (by rw [e]))
  · exact fin _ _ hθ (h5 (by rw [e1]))
  · exact pf_recAtN N hok.hR hα hr _ _ (Or.inr ⟨rfl, h2 x (by omega) rfl⟩)
theorem moT_rec {A : AS} {μ : St} (hok : okS A) (hA : moS A μ) (N : Nat) (hN : 11 ≤ N) (x1 x2 : Int32) (post : Int32 → St → Prop)
    (h1 : ¬ rg 0 6 x2 → ∀ v u, u 39 0 = 1 → moS A u → post v u)
    (h2 : ∀ x, x < 4 → x2 = nI x → ¬ rg 0 (AR A) x1 → ∀ v u, u 39 0 = 2 → moS A u → post v u)
    (h4 : x2 = nI 4 → ∀ u, u 39 0 = 0 → moS A u → post (nI (AR A)) u)
    (h5 : x2 = nI 5 → ∀ u, u 39 0 = 0 → moS A u → post (AD A) u)
    (h0 : ∀ r x, r < AR A → x < 4 → x1 = nI r → x2 = nI x → ∀ u, u 39 0 = 0 → moS A u → post (vRec A r x) u) : wp_Model_receipt N μ x1 x2 post := by
  have stop : ∀ y : Int32, ¬ y = 0 → (∀ v u, u 39 0 = y → moS A u → post v u) → wp_Model_receipt_38 N post x1 x2 y μ := by
    intro y hy hk
    unfold wp_Model_receipt_38
    intro μ5 e5
    have e39 : μ5 39 0 = y := by rw [e5, s2_same]
    rw [e39]
    exact ⟨fun h => absurd h hy, fun _ => hk 0 μ5 e39 (moS_same (fun d hd => by rw [e5, s2_comp _ _ _ _ (by omega)]) hA)⟩
  have hR := hok.hR
  unfold wp_Model_receipt wp_Model_receipt_37
  refine pf_Mw N (lo := 0) (n := 6) (by decide) (by decide) (by decide) _ (fun x _ hx e2 => ⟨fun _ => ?_, fun h => absurd h (by decide)⟩) (fun hn => ⟨fun h => absurd rfl h, fun _ => stop 1 (by decide) (h1 hn)⟩)
  subst e2
  have go : (4 ≤ x ∨ ∃ r, r < AR A ∧ x1 = nI r) → wp_Model_receipt_38 N post x1 (nI x) 0 μ := by
    intro hcase
    unfold wp_Model_receipt_38
    intro μ8 e8
    have e39 : μ8 39 0 = 0 := by rw [e8, s2_same]
    have hA8 : moS A μ8 := moS_same (fun d hd => by rw [e8, s2_comp _ _ _ _ (by omega)]) hA
    obtain ⟨m1, m2, m3, m4, m5, m6, m7, m8⟩ := id hA8
    refine ⟨fun _ => ?_, fun h => absurd e39 h⟩
    refine (pk_eq x 4 (fun e => ?_) (fun e => (pk_eq x 5 (fun e1 => ?_) (fun e1 => ?_)).symm)).symm
    · rw [m5]; exact h4 (by rw [e]) μ8 e39 hA8
    · rw [m6]; exact h5 (by rw [e1]) μ8 e39 hA8
    · obtain ⟨r, hr, rfl⟩ : ∃ r, r < AR A ∧ x1 = nI r := hcase.elim (fun h => absurd h (by omega)) id
      obtain ⟨c1, c2, c3, c4, c5⟩ := m7 r hr
      have hz : Arz A r ≤ 10 := (hok.hrec r hr).2.2.1
      have hin : vp_in (nI r) 12 := vp_in_nI (by omega) (by decide)
      have fin : ∀ v : Int32, v = vRec A r x → post v μ8 := fun v ev => by rw [ev]; exact h0 r x hr (by omega) rfl rfl μ8 e39 hA8
      have loop : ∀ (n i : Nat), i ≤ Arz A r → Arz A r - i < n → wp_Model_receipt_75 N post n (nI r) (nI x) (nI (kc (Ark A r) i)) (nI i) μ8 := by
        intro n
        induction n with
        | zero => intro i _ h; omega
        | succ n ih =>
          intro i hi hn
          rw [wp_Model_receipt_75, nI_clamp (by omega), c1]
          refine ⟨hin, pk_le (Arz A r) i (fun hq => ?_) (fun hq => ?_)⟩
          · have : i = Arz A r := by omega
            subst this
            exact (pk_eq x 0 (fun q0 => ⟨hin, fin _ (by unfold vRec; rw [if_pos q0]; exact c2)⟩) (fun q0 => (pk_eq x 1 (fun q1 => ⟨hin, fin _ (by unfold vRec; rw [if_neg q0, if_pos q1]; exact c3)⟩) (fun q1 => (pk_eq x 2 (fun q2 => ⟨hin, fin _ (by unfold vRec; rw [if_neg q0, if_neg q1, if_pos q2])⟩) (fun q2 => fin _ (by unfold vRec; rw [if_neg q0, if_neg q1, if_neg q2]))).symm)).symm)).symm
          · have e10 : (10 : Int32) * nI r + nI i = nI (10 * r + i) := by rw [show (10 : Int32) = nI 10 from rfl, pk_mul, nI_add]
            unfold wp_Model_receipt_104
            rw [e10, nI_clamp (by omega), (c4 i hq).2.2.2.2, nI_1, nI_1]
            refine ⟨vp_in_nI (by omega) (by decide), fun hn0 => ?_, fun h00 => ?_⟩
            · cases hk : Ark A r i with
              | true => rw [hk] at hn0; exact absurd rfl hn0
              | false => rw [← kc_f hk]; exact ih (i + 1) (by omega) (by omega)
            · cases hk : Ark A r i with
              | true => rw [← kc_t hk]; exact ih (i + 1) (by omega) (by omega)
              | false => rw [hk] at h00; exact absurd h00 (by decide)
      exact loop N 0 (by omega) (by omega)
  refine pk_le 4 x (fun hq => go (Or.inl hq)) (fun hq => ?_)
  rw [hA.2.2.2.2.1]
  exact pf_Mw N (lo := 0) (n := AR A) (by omega) (by decide) rfl _ (fun r _ hr e1 => ⟨fun _ => go (Or.inr ⟨r, hr, e1⟩), fun h => absurd h (by decide)⟩) (fun hn => ⟨fun h => absurd rfl h, fun _ => stop 2 (by decide) (h2 x (by omega) rfl hn)⟩)
