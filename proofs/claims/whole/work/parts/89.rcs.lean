/-! receipts on the side of the till: what a receipt holds, the copies, the constructor -/
def rcS (A : AS) (r : Nat) (χ β2 τ2 : St) (ω2 : Nat → St) : Prop := repB β2 (Arb A r) (Arz A r) ∧ (∀ a, a < 12 → τ2 0 a = nI (ArC A r a)) ∧ repW ω2 (ArO A r) ∧ (∀ i, i < Arz A r → χ 2 i = Arf A r i ∧ χ 3 i = nI (Ary A r i) ∧ χ 4 i = bI (Ark A r i)) ∧ χ 5 0 = nI (Arp A r) ∧ χ 6 0 = nI (Arr A r)
theorem pf_copyTo (N : Nat) {ω : St} {O : Nat → Nat} (h : repO ω O) (ω2 : St) : wp_Offer_copyTo N ω ω2 (cpO ω) := by
  unfold wp_Offer_copyTo
  intro ω21 e1 ω22 e2 ω23 e3 ω24 e4
  refine ⟨nar_ok ?_, fun ω26 e6 ω27 e7 => ⟨fun q hq => ?_, fun s hs => ?_⟩⟩
  · have h4 := h.2.2.2.2.2.2.2.1
    rw [h.1 4 (by decide)]
    rcases (show O 4 = 0 ∨ O 4 = 1 by omega) with e | e
    · rw [e]; exact Or.inl rfl
    · rw [e]; exact Or.inr rfl
  · have hc : ω27 q = ω26 q := by rw [e7]; unfold va_up; rw [if_neg (by omega)]
    rw [hc, e6, e4, e3, e2, e1]
    rcases (show q = 0 ∨ q = 1 ∨ q = 2 ∨ q = 3 ∨ q = 4 by omega) with rfl | rfl | rfl | rfl | rfl
    · rw [s2_ne _ _ _ _ (Or.inl (by decide)), s2_ne _ _ _ _ (Or.inl (by decide)), s2_ne _ _ _ _ (Or.inl (by decide)), s2_ne _ _ _ _ (Or.inl (by decide)), s2_same]
    · rw [s2_ne _ _ _ _ (Or.inl (by decide)), s2_ne _ _ _ _ (Or.inl (by decide)), s2_ne _ _ _ _ (Or.inl (by decide)), s2_same]
    · rw [s2_ne _ _ _ _ (Or.inl (by decide)), s2_ne _ _ _ _ (Or.inl (by decide)), s2_same]
    · rw [s2_ne _ _ _ _ (Or.inl (by decide)), s2_same]
    · rw [s2_same]
  · have hc : ω27 5 s = va_cpy (ω 5) (ω26 5) (Int32.toNatClampNeg 0) (Int32.toNatClampNeg 0) (Int32.toNatClampNeg 4) s := by rw [e7]; unfold va_up; rw [if_pos rfl]
    rw [hc]
    have : va_cpy (ω 5) (ω26 5) (Int32.toNatClampNeg 0) (Int32.toNatClampNeg 0) (Int32.toNatClampNeg 4) s = ω 5 (0 + (s - 0)) := pk_cpy_in (by exact Nat.zero_le _) (by show s < 0 + 4; omega)
    rw [this, Nat.zero_add, Nat.sub_zero]
theorem cpO_rep {ω u : St} {O : Nat → Nat} (h : cpO ω u) (hr : repO ω O) : repO u O :=
  ⟨fun j hj => by rw [h.1 j hj]; exact hr.1 j hj, fun s hs => by rw [h.2 s hs]; exact hr.2.1 s hs, hr.2.2⟩
theorem pf_RecInit (N : Nat) (hN : 11 ≤ N) (τ2 : St) (ω2 : Nat → St) (τ : St) (ω : Nat → St) {β π : St} (ρ : Nat → Int64) {b : Nat → Nat} {z : Nat} {P : PS} (hB : repB β b z) (hP : repP π z P) (post : St × St → Prop)
    (hp : ∀ χ β2 : St, repB β2 b z → (∀ i, i < z → χ 2 i = psF P i ∧ χ 3 i = nI (psY P i) ∧ χ 4 i = 1) → χ 5 0 = nI (ys (psY P) z) → χ 6 0 = 0 → post (χ, β2)) : wp_Rec_init_50 N τ2 ω2 τ ω β π ρ post (fun _ _ => False) N 0 z0 z0 := by
  have hz := hB.1
  have loop : ∀ (n i : Nat) (χ β2 : St), i ≤ z → z - i < n → repB β2 b i → (∀ j, j < i → χ 2 j = psF P j ∧ χ 3 j = nI (psY P j) ∧ χ 4 j = 1) → χ 6 0 = 0 → wp_Rec_init_50 N τ2 ω2 τ ω β π ρ post (fun _ _ => False) n (nI i) χ β2 := by
    intro n
    induction n with
    | zero => intro i χ β2 _ h; omega
    | succ n ih =>
      intro i χ β2 hi hn h2 hc h6
      rw [wp_Rec_init_50, hB.2.1]
      refine pk_le z i (fun hq => ?_) (fun hq => ?_)
      · have : i = z := by omega
        subst this
        refine pf_paidIn N hN ρ hB (Y := psY P) (fun j hj => (hP.1 j hj).2.2.1) _ (fun χ4 e4 => ?_)
        refine hp χ4 β2 h2 (fun j hj => ?_) (by rw [e4, s2_same]) (by rw [e4, s2_ne _ _ _ _ (Or.inl (by decide))]; exact h6)
        rw [e4, s2_comp _ _ _ _ (by decide), s2_comp _ _ _ _ (by decide), s2_comp _ _ _ _ (by decide)]
        exact hc j hj
      · have hin : vp_in (nI i) 10 := vp_in_nI (by omega) (by decide)
        rw [nI_clamp (by omega)]
        obtain ⟨q1, q2⟩ := hB.2.2 i hq
        obtain ⟨p1, p2, p3, -⟩ := hP.1 i hq
        rw [q1]
        refine ⟨hin, pf_add N h2 (by omega) q2 _ (fun u6 h3 => ⟨hin, hin, fun χ10 e10 => ⟨hin, hin, fun χ13 e13 => ⟨hin, fun χ15 e15 => ?_⟩⟩⟩)⟩
        rw [nI_1]
        refine ih (i + 1) χ15 u6 (by omega) (by omega) (repB_congr (b := fup b i (b i)) (fun j hj => ?_) h3) (fun j hj => ?_) ?_
        · by_cases e : j = i
          · rw [e, fup_same]
          · rw [fup_ne _ _ e]
        · rw [e15, e13, e10]
          by_cases e : j = i
          · subst e
            refine ⟨?_, ?_, ?_⟩
            · rw [s2_ne _ _ _ _ (Or.inl (by decide)), s2_ne _ _ _ _ (Or.inl (by decide)), s2_same]; exact p1
            · rw [s2_ne _ _ _ _ (Or.inl (by decide)), s2_same]; exact p3
            · rw [s2_same]; rfl
          · rw [s2_ne _ _ _ _ (Or.inl (by decide)), s2_ne _ _ _ _ (Or.inl (by decide)), s2_ne _ _ _ _ (Or.inr e), s2_ne _ _ _ _ (Or.inl (by decide)), s2_ne _ _ _ _ (Or.inr e), s2_ne _ _ _ _ (Or.inl (by decide)), s2_ne _ _ _ _ (Or.inr e), s2_ne _ _ _ _ (Or.inl (by decide)), s2_ne _ _ _ _ (Or.inl (by decide))]
            exact hc j (by omega)
        · rw [e15, e13, e10, s2_ne _ _ _ _ (Or.inl (by decide)), s2_ne _ _ _ _ (Or.inl (by decide)), s2_ne _ _ _ _ (Or.inl (by decide))]
          exact h6
  exact loop N 0 z0 z0 (by omega) (by omega) ⟨by omega, rfl, fun i hi => by omega⟩ (fun j hj => by omega) rfl
theorem ys_le {Y : Nat → Nat} {m : Nat} (h : ∀ j, Y j ≤ m) : ∀ n, ys Y n ≤ n * m := by
  intro n
  induction n with
  | zero => exact Nat.zero_le _
  | succ n ih =>
    show ys Y n + Y n ≤ (n + 1) * m
    rw [Nat.succ_mul]
    exact Nat.add_le_add ih (h n)
/-! finish -/
def gup {α : Type} (f : Nat → α) (k : Nat) (v : α) : Nat → α := fun j => if j = k then v else f j
theorem gup_same {α : Type} (f : Nat → α) (k : Nat) (v : α) : gup f k v k = v := if_pos rfl
theorem gup_ne {α : Type} (f : Nat → α) {k j : Nat} (v : α) (h : j ≠ k) : gup f k v j = f j := if_neg h
abbrev plA (A : AS) : PS := planP (AOs A) (AC A) (Ab A) (Az A)
abbrev tlA (A : AS) : Nat := TL (AOs A) (AC A) (Ab A) (Az A)
def aFin (A : AS) : AS := (AOs A, AC A, AX A, Ab A, 0, AR A + 1, AD A + nI (tlA A), gup (ArO A) (AR A) (AOs A), gup (ArC A) (AR A) (AC A), gup (Arb A) (AR A) (Ab A), gup (Arz A) (AR A) (Az A), gup (Arf A) (AR A) (psF (plA A)), gup (Ary A) (AR A) (psY (plA A)), gup (Ark A) (AR A) (fun _ => true), gup (Arp A) (AR A) (tlA A), gup (Arr A) (AR A) 0)
theorem tl_le {A : AS} (h : okS A) : tlA A ≤ 1000000 := by
  obtain ⟨h1, h2, -⟩ := planP_ok h.hO h.hC h.hz h.hb
  have h3 := ys_le h2 (Az A)
  have h4 := h.hz
  have h5 : Az A * 100000 ≤ 10 * 100000 := Nat.mul_le_mul_right _ h4
  have : tlA A = ys (psY (plA A)) (Az A) := h1.symm
  rw [this]
  exact Nat.le_trans h3 h5
theorem okR_old {A : AS} {r : Nat} (h : okR A r) (hr : r ≠ AR A) : okR (aFin A) r := by
  unfold okR ArO ArC Arb Arz Ary Arp Arr aFin
  dsimp only
  rw [gup_ne _ _ hr, gup_ne _ _ hr, gup_ne _ _ hr, gup_ne _ _ hr, gup_ne _ _ hr, gup_ne _ _ hr, gup_ne _ _ hr]
  exact h
theorem okR_new {A : AS} (h : okS A) : okR (aFin A) (AR A) := by
  unfold okR ArO ArC Arb Arz Ary Arp Arr aFin
  dsimp only
  rw [gup_same, gup_same, gup_same, gup_same, gup_same, gup_same, gup_same]
  exact ⟨h.hO, h.hC, h.hz, h.hb, h.hroom, (planP_ok h.hO h.hC h.hz h.hb).2.1, tl_le h, Nat.zero_le _⟩
theorem ok_fin {A : AS} (h : okS A) (hr : AR A < 12) : okS (aFin A) :=
  ⟨h.hO, h.hC, h.hX, Nat.zero_le _, fun i hi => absurd hi (Nat.not_lt_zero i), room_0 _ _, hr, fun r hlt => by
    by_cases e : r = AR A
    · rw [e]; exact okR_new h
    · exact okR_old (h.hrec r (by have : r < AR A + 1 := hlt; omega)) e⟩
theorem rcS_old {A : AS} {r : Nat} {χ β2 τ2 : St} {ω2 : Nat → St} (h : rcS A r χ β2 τ2 ω2) (hr : r ≠ AR A) : rcS (aFin A) r χ β2 τ2 ω2 := by
  unfold rcS Arb Arz ArC ArO Arf Ary Ark Arp Arr aFin
  dsimp only
  rw [gup_ne _ _ hr, gup_ne _ _ hr, gup_ne _ _ hr, gup_ne _ _ hr, gup_ne _ _ hr, gup_ne _ _ hr, gup_ne _ _ hr, gup_ne _ _ hr, gup_ne _ _ hr]
  exact h
theorem rcS_new {A : AS} {χ β2 τ2 : St} {ω2 : Nat → St} (h1 : repB β2 (Ab A) (Az A)) (h2 : ∀ a, a < 12 → τ2 0 a = nI (AC A a)) (h3 : repW ω2 (AOs A)) (h4 : ∀ i, i < Az A → χ 2 i = psF (plA A) i ∧ χ 3 i = nI (psY (plA A) i) ∧ χ 4 i = 1) (h5 : χ 5 0 = nI (tlA A)) (h6 : χ 6 0 = 0) : rcS (aFin A) (AR A) χ β2 τ2 ω2 := by
  unfold rcS Arb Arz ArC ArO Arf Ary Ark Arp Arr aFin
  dsimp only
  rw [gup_same, gup_same, gup_same, gup_same, gup_same, gup_same, gup_same, gup_same, gup_same]
  exact ⟨h1, h2, h3, h4, h5, h6⟩
