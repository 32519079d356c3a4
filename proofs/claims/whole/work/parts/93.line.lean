/-! line, receipt -/
theorem pf_recAt (N : Nat) {A : AS} (hR : AR A ≤ 12) {θ α : St} (ε χ β2 : St) (hα : α 2 0 = nI (AR A)) {r : Nat} (hr : r < AR A) (post : Unit → Prop) (xp : String → Unit → Prop) (h : post ()) : wp_Till_receiptAt N θ α ε χ β2 (nI r) post xp := by
  unfold wp_Till_receiptAt wp_AL_size
  refine pf_reqIdx N (z := AR A) (by omega) hα _ _ (fun j hj e => ?_) (fun hn => absurd (rg_of (Nat.zero_le _) hr) hn)
  unfold wp_AL_get wp_Ob_checkIndex wp_Pre_checkIndex wp_AL_elementData
  rw [hα]
  refine ⟨fun hlt => ?_, fun _ => ⟨fun _ => h, fun hge => hge ((nI_ltI (a := r) (b := AR A) (by omega) (by omega)).mpr hr)⟩⟩
  have := (nI_ltI (a := r) (b := 0) (by omega) (by decide)).mp hlt
  omega
theorem pf_recAtN (N : Nat) {A : AS} (hR : AR A ≤ 12) {θ α : St} (hα : α 2 0 = nI (AR A)) {x1 : Int32} (hr : ¬ rg 0 (AR A) x1) (post : Unit → Prop) (xp : String → Unit → Prop) (h : xp eIO ()) : wp_Till_receiptAtN N θ α x1 post xp := by
  unfold wp_Till_receiptAtN wp_AL_size
  exact pf_reqIdx N (z := AR A) (by omega) hα _ _ (fun j hj e => hr (by rw [e]; exact rg_of (Nat.zero_le _) hj)) (fun _ => h)
def vLine (A : AS) (r i x : Nat) : Int32 := if x = 0 then nI (Arb A r i) else if x = 1 then Arf A r i else if x = 2 then nI (Ary A r i) else bI (Ark A r i)
theorem clT_line {A : AS} (hok : okS A) (N : Nat) {θ α : St} (ε : St) (ο : Nat → Int64) (hα : α 2 0 = nI (AR A)) {r : Nat} (hr : r < AR A) {χ β2 τ2 : St} {ω2 : Nat → St} (hc : rcS A r χ β2 τ2 ω2) (x2 x3 : Int32) (post : Int32 → (Nat → Int64) → Prop)
    (h1 : ¬ rg 0 (Arz A r) x2 → post 1 ο) (h2 : rg 0 (Arz A r) x2 → ¬ rg 0 4 x3 → post 2 ο)
    (h0 : ∀ i x, i < Arz A r → x < 4 → x2 = nI i → x3 = nI x → ∀ ο2 : Nat → Int64, ο2 0 = Int32.toInt64 (vLine A r i x) → post 0 ο2) : wp_Law_line N θ α ε χ β2 ο (nI r) x2 x3 post := by
  obtain ⟨a1, a2, a3, a4, a5, a6⟩ := hc
  have hR := hok.hR
  have hz := a1.1
  unfold wp_Law_line wp_Till_line
  refine pf_recAt N hR ε χ β2 hα hr _ _ ?_
  refine pf_reqIdx N (z := Arz A r) (by omega) a1.2.1 _ _ (fun i hi e2 => ?_) (fun hn => Or.inl ⟨rfl, h1 hn⟩)
  subst e2
  refine pf_TwA N (lo := 0) (n := 4) (by decide) (by decide) (by decide) _ _ (fun x _ hx e3 => ?_) (fun hn => Or.inr ⟨rfl, h2 (rg_of (by omega) hi) hn⟩)
  subst e3
  have hin : vp_in (nI i) 10 := vp_in_nI (by omega) (by decide)
  have fin : ∀ v : Int32, v = vLine A r i x → (vp_in 0 1 ∧ (∀ ο4, ο4 = vp_updL ο (Int32.toNatClampNeg 0) (Int32.toInt64 v) → post 0 ο4)) := by
    intro v ev
    refine ⟨vp_in_nI (n := 0) (by decide) (by decide), fun ο4 e4 => h0 i x hi hx rfl rfl ο4 ?_⟩
    rw [e4, ev]
    exact upL_same ..
  rw [nI_clamp (by omega)]
  obtain ⟨c1, c2, c3⟩ := a4 i hi
  refine pk_eq x 0 (fun e => ⟨hin, fin _ ?_⟩) (fun e => pk_eq x 1 (fun e1 => ⟨hin, fin _ ?_⟩) (fun e1 => pk_eq x 2 (fun e2 => ⟨hin, fin _ ?_⟩) (fun e2 => ⟨hin, fun hz0 => fin _ ?_, fun hz0 => fin _ ?_⟩)))
  · unfold vLine; rw [if_pos e]; exact (a1.2.2 i hi).1
  · unfold vLine; rw [if_neg e, if_pos e1]; exact c1
  · unfold vLine; rw [if_neg e, if_neg e1, if_pos e2]; exact c2
  · unfold vLine; rw [if_neg e, if_neg e1, if_neg e2, ← c3]; exact hz0.symm
  · unfold vLine
    rw [if_neg e, if_neg e1, if_neg e2]
    rw [c3] at hz0
    cases hk : Ark A r i with
    | true => rfl
    | false => rw [hk] at hz0; exact absurd rfl hz0
theorem clT_lineN {A : AS} (hok : okS A) (N : Nat) {θ α : St} (ο : Nat → Int64) (hα : α 2 0 = nI (AR A)) {x1 : Int32} (hr : ¬ rg 0 (AR A) x1) (x2 x3 : Int32) (post : Int32 → (Nat → Int64) → Prop) (h1 : post 1 ο) : wp_Law_lineN N θ α ο x1 x2 x3 post := by
  unfold wp_Law_lineN wp_Till_lineN
  exact pf_recAtN N hok.hR hα hr _ _ (Or.inl ⟨rfl, h1⟩)
theorem pf_isLine (N : Nat) {A : AS} (hok : okS A) {μ : St} (hA : moS A μ) (x1 x2 : Int32) (post : Int32 → Unit → Prop) (h1 : ∀ r i, r < AR A → i < Arz A r → x1 = nI r → x2 = nI i → post 1 ()) (h0 : (¬ ∃ r i, r < AR A ∧ i < Arz A r ∧ x1 = nI r ∧ x2 = nI i) → post 0 ()) : wp_Model_isLine N μ x1 x2 post := by
  obtain ⟨m1, m2, m3, m4, m5, m6, m7, m8⟩ := id hA
  have hR := hok.hR
  unfold wp_Model_isLine wp_Model_isLine_34
  rw [m5]
  refine pf_Mw N (lo := 0) (n := AR A) (by omega) (by decide) rfl _ (fun r _ hr e1 => ⟨fun h => absurd h (by decide), fun _ => ?_⟩) (fun hn => ⟨fun _ => h0 (fun ⟨r, i, q1, q2, q3, q4⟩ => hn ⟨r, Nat.zero_le _, q1, q3⟩), fun h => absurd rfl h⟩)
  subst e1
  have hz : Arz A r ≤ 10 := (hok.hrec r hr).2.2.1
  rw [nI_clamp (by omega), (m7 r hr).1]
  refine ⟨vp_in_nI (by omega) (by decide), pf_Mw N (lo := 0) (n := Arz A r) (by omega) (by decide) rfl _ (fun i _ hi e2 => ⟨fun h => absurd h (by decide), fun _ => h1 r i hr hi rfl e2⟩) (fun hn => ⟨fun _ => h0 (fun ⟨r2, i, q1, q2, q3, q4⟩ => hn ⟨i, Nat.zero_le _, ?_, q4⟩), fun h => absurd rfl h⟩)⟩
  have : r = r2 := (eqL (n := r) (m := r2) (by omega) (by omega)).mp q3
  rw [this]; exact q2
theorem moT_line {A : AS} {μ : St} (hok : okS A) (hA : moS A μ) (N : Nat) (x1 x2 x3 : Int32) (post : Int32 → St → Prop)
    (h1 : (¬ ∃ r i, r < AR A ∧ i < Arz A r ∧ x1 = nI r ∧ x2 = nI i) → ∀ v u, u 39 0 = 1 → moS A u → post v u)
    (h2 : (∃ r i, r < AR A ∧ i < Arz A r ∧ x1 = nI r ∧ x2 = nI i) → ¬ rg 0 4 x3 → ∀ v u, u 39 0 = 2 → moS A u → post v u)
    (h0 : ∀ r i x, r < AR A → i < Arz A r → x < 4 → x1 = nI r → x2 = nI i → x3 = nI x → ∀ u, u 39 0 = 0 → moS A u → post (vLine A r i x) u) : wp_Model_line N μ x1 x2 x3 post := by
  have stop : ∀ y : Int32, ¬ y = 0 → (∀ v u, u 39 0 = y → moS A u → post v u) → wp_Model_line_28 N post x1 x2 x3 y μ := by
    intro y hy hk
    unfold wp_Model_line_28
    intro μ5 e5
    have e39 : μ5 39 0 = y := by rw [e5, s2_same]
    rw [e39]
    exact ⟨fun h => absurd h hy, fun _ => hk 0 μ5 e39 (moS_same (fun d hd => by rw [e5, s2_comp _ _ _ _ (by omega)]) hA)⟩
  have hR := hok.hR
  unfold wp_Model_line
  refine pf_isLine N hok hA x1 x2 _ (fun r i hr hi e1 e2 => ⟨fun _ => ?_, fun h => absurd h (by decide)⟩) (fun hn => ⟨fun h => absurd rfl h, fun _ => stop 1 (by decide) (h1 hn)⟩)
  refine pf_Mw N (lo := 0) (n := 4) (by decide) (by decide) (by decide) _ (fun x _ hx e3 => ⟨fun _ => ?_, fun h => absurd h (by decide)⟩) (fun hn => ⟨fun h => absurd rfl h, fun _ => stop 2 (by decide) (h2 ⟨r, i, hr, hi, e1, e2⟩ hn)⟩)
  subst e1 e2 e3
  have hz : Arz A r ≤ 10 := (hok.hrec r hr).2.2.1
  unfold wp_Model_line_28
  intro μ7 e7
  have e39 : μ7 39 0 = 0 := by rw [e7, s2_same]
  have hA7 : moS A μ7 := moS_same (fun d hd => by rw [e7, s2_comp _ _ _ _ (by omega)]) hA
  refine ⟨fun _ => ?_, fun h => absurd e39 h⟩
  have e10 : (10 : Int32) * nI r + nI i = nI (10 * r + i) := by rw [show (10 : Int32) = nI 10 from rfl, pk_mul, nI_add]
  rw [e10, nI_clamp (by omega)]
  have hin : vp_in (nI (10 * r + i)) 120 := vp_in_nI (by omega) (by decide)
  obtain ⟨c1, c2, c3, c4, c5⟩ := (hA7.2.2.2.2.2.2.1 r hr).2.2.2.1 i hi
  have fin : ∀ v : Int32, v = vLine A r i x → post v μ7 := fun v ev => by rw [ev]; exact h0 r i x hr hi hx rfl rfl rfl μ7 e39 hA7
  refine (pk_eq x 0 (fun e => ⟨hin, fin _ ?_⟩) (fun e => (pk_eq x 1 (fun e1 => ⟨hin, fin _ ?_⟩) (fun e1 => (pk_eq x 2 (fun e2 => ⟨hin, fin _ ?_⟩) (fun e2 => ⟨hin, fun hz0 => fin _ ?_, fun hz0 => fin _ ?_⟩)).symm)).symm)).symm
  · unfold vLine; rw [if_pos e]; exact c1
  · unfold vLine; rw [if_neg e, if_pos e1]; exact c3
  · unfold vLine; rw [if_neg e, if_neg e1, if_pos e2]; exact c4
  · unfold vLine
    rw [if_neg e, if_neg e1, if_neg e2]
    rw [c5] at hz0
    cases hk : Ark A r i with
    | true => rfl
    | false => rw [hk] at hz0; exact absurd hz0 (by decide)
  · unfold vLine
    rw [if_neg e, if_neg e1, if_neg e2]
    rw [c5] at hz0
    cases hk : Ark A r i with
    | true => rw [hk] at hz0; exact absurd rfl hz0
    | false => rfl
