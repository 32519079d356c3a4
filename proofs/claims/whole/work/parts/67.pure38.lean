/-! the plan that counts, as a function of states -/
abbrev PS : Type := (Nat → Bool) × (Nat → Int32) × (Nat → Int32) × (Nat → Nat) × Nat
abbrev psG (P : PS) : Nat → Bool := P.1
abbrev psF (P : PS) : Nat → Int32 := P.2.1
abbrev psU (P : PS) : Nat → Int32 := P.2.2.1
abbrev psY (P : PS) : Nat → Nat := P.2.2.2.1
abbrev psn (P : PS) : Nat := P.2.2.2.2
def memP (b : Nat → Nat) (z : Nat) (G : Nat → Bool) (l : List Nat) : Nat → Bool := fun j => takeG b z G l j && !G j
def useP (Os : Nat → Nat → Nat) (C b : Nat → Nat) (z : Nat) (P : PS) (u : Us) : PS := (takeG b z (psG P) u.2, fun j => if memP b z (psG P) u.2 j then nI u.1 else psF P j, fun j => if memP b z (psG P) u.2 j then nI (psn P) else psU P j, spY z (uP C u - uC Os C u) (uP C u) (memP b z (psG P) u.2) (psY P), psn P + 1)
def aloP (b : Nat → Nat) (z : Nat) (P : PS) (a : Nat) : PS := (stG b z (psG P) a, psF P, psU P, psY P, psn P)
def Pu (Os : Nat → Nat → Nat) (C t : Nat → Nat) (s a : Nat) (u : Us) : Bool := fitV t s u && decide (a ∈ u.2) && decide (uC Os C u + LT Os C t (s - stp t u) = LT Os C t s)
def chs (Os : Nat → Nat → Nat) (C t : Nat → Nat) (s a : Nat) : Option Us := if SV Os C t (s - str t a) = SV Os C t s then none else (allU Os t 6).find? (Pu Os C t s a)
def stpP (Os : Nat → Nat → Nat) (C b : Nat → Nat) (z : Nat) (t : Nat → Nat) (s : Nat) (P : PS) (a : Nat) : Nat × PS := match chs Os C t s a with
  | none => (s - str t a, aloP b z P a)
  | some u => (s - stp t u, useP Os C b z P u)
def laF (v : Nat → Nat) : Nat → Nat
  | 0 => 0
  | n + 1 => if laF v n < n then laF v n else if 0 < v n then n else n + 1
def planF (Os : Nat → Nat → Nat) (C b : Nat → Nat) (z : Nat) (t : Nat → Nat) : Nat → Nat × PS → Nat × PS
  | 0, x => x
  | m + 1, x => if laF (dg t x.1) 12 < 12 then planF Os C b z t m (stpP Os C b z t x.1 x.2 (laF (dg t x.1) 12)) else x
theorem laF_s (v : Nat → Nat) (n : Nat) : laF v (n + 1) = if laF v n < n then laF v n else if 0 < v n then n else n + 1 := rfl
theorem laF_at {v : Nat → Nat} {a : Nat} (h1 : 0 < v a) (h2 : ∀ b, b < a → v b = 0) : ∀ n, laF v n = if a < n then a else n := by
  intro n
  induction n with
  | zero => rfl
  | succ n ih =>
    rw [laF_s, ih]
    by_cases h : a < n
    · rw [if_pos h, if_pos h, if_pos (by omega)]
    · rw [if_neg h, if_neg (Nat.lt_irrefl _)]
      by_cases e : a = n
      · subst e; rw [if_pos h1, if_pos (by omega)]
      · rw [if_neg (by have := h2 n (by omega); omega), if_neg (by omega)]
theorem laF_no {v : Nat → Nat} : ∀ n, (∀ b, b < n → v b = 0) → laF v n = n := by
  intro n
  induction n with
  | zero => intro _; rfl
  | succ n ih =>
    intro h
    rw [laF_s, ih (fun b hb => h b (by omega)), if_neg (Nat.lt_irrefl _), if_neg (by have := h n (by omega); omega)]
theorem laF_lt {v : Nat → Nat} : ∀ n, laF v n < n → 0 < v (laF v n) ∧ ∀ b, b < laF v n → v b = 0 := by
  intro n
  induction n with
  | zero => intro h; omega
  | succ n ih =>
    intro h
    rw [laF_s] at h ⊢
    by_cases h1 : laF v n < n
    · rw [if_pos h1]; exact ih h1
    · rw [if_neg h1] at h ⊢
      by_cases h2 : 0 < v n
      · rw [if_pos h2]
        refine ⟨h2, fun b hb => ?_⟩
        rcases Nat.eq_zero_or_pos (v b) with h3 | h3
        · exact h3
        · exfalso
          obtain ⟨k, k1, k2⟩ := pk_least (fun k => 0 < v k) ⟨b, h3⟩
          have hkb : k ≤ b := by
            rcases Nat.lt_or_ge b k with h | h
            · exact absurd h3 (k2 b h)
            · exact h
          have := laF_at k1 (fun i hi => by have := k2 i hi; omega) n
          rw [if_pos (by omega)] at this
          omega
      · rw [if_neg h2] at h; omega
theorem laF_ge {v : Nat → Nat} {n : Nat} (h : ¬ laF v n < n) : ∀ b, b < n → v b = 0 := by
  intro b hb
  rcases Nat.eq_zero_or_pos (v b) with h3 | h3
  · exact h3
  · exfalso
    obtain ⟨k, k1, k2⟩ := pk_least (fun k => 0 < v k) ⟨b, h3⟩
    have hkb : k ≤ b := by
      rcases Nat.lt_or_ge b k with h | h
      · exact absurd h3 (k2 b h)
      · exact h
    have := laF_at k1 (fun i hi => by have := k2 i hi; omega) n
    rw [if_pos (by omega)] at this
    omega
theorem find_congr {P Q : Us → Bool} : ∀ (l : List Us), (∀ u ∈ l, P u = Q u) → l.find? P = l.find? Q := by
  intro l
  induction l with
  | nil => intro _; rfl
  | cons u r ih =>
    intro h
    have h1 := h u List.mem_cons_self
    by_cases hp : P u = true
    · rw [List.find?_cons_of_pos hp, List.find?_cons_of_pos (h1 ▸ hp)]
    · rw [List.find?_cons_of_neg hp, List.find?_cons_of_neg (fun q => hp (h1 ▸ q)), ih (fun w hw => h w (List.mem_cons_of_mem _ hw))]
theorem Pu_iff {Os : Nat → Nat → Nat} {C t : Nat → Nat} {s a : Nat} {u : Us} : Pu Os C t s a u = true ↔ fitV t s u = true ∧ a ∈ u.2 ∧ uC Os C u + LT Os C t (s - stp t u) = LT Os C t s := by
  unfold Pu
  rw [Bool.and_eq_true, Bool.and_eq_true, decide_eq_true_iff, decide_eq_true_iff, and_assoc]
/-- a use that is chosen has a saving -/
theorem Pu_sav {Os : Nat → Nat → Nat} {C t : Nat → Nat} (hO : ∀ i, i < 6 → okO (Os i)) {s a : Nat} (hs : s < str t 18) (ha : a < 12) (hd : 0 < dg t s a) (hb : ∀ b, b < a → dg t s b = 0) (hne : SV Os C t (s - str t a) ≠ SV Os C t s) {u : Us} (hu : u ∈ allU Os t 6) (hP : Pu Os C t s a u = true) : uC Os C u < uP C u ∧ stp t u ≤ s ∧ SV Os C t s = (uP C u - uC Os C u) + SV Os C t (s - stp t u) := by
  obtain ⟨p1, p2, p3⟩ := Pu_iff.mp hP
  have hf := fitV_iff.mp p1
  obtain ⟨d1, d2⟩ := dg_sub hs hf
  have d1' : stp t u ≤ s := d1
  have hW := W_sub (C := C) hs hf
  rw [ve_pr] at hW
  have hW' : pr C (dg t s) 12 = uP C u + pr C (dg t (s - stp t u)) 12 := hW
  have e1 := SV_LT (C := C) hO hs
  have e2 := SV_LT (C := C) hO (show s - stp t u < str t 18 by omega)
  have key : uC Os C u < uP C u := by
    rcases Nat.lt_or_ge (uC Os C u) (uP C u) with h | h
    · exact h
    · exfalso
      -- without a saving the unit alone does as well
      obtain ⟨m1, -⟩ := SI_main (C := C) hO (s + 1) s (by omega) hs a ha hd hb
      have e3 := SV_SI (C := C) hO hs
      have e4 := SV_SI (C := C) hO (show s - str t a < str t 18 by omega)
      have e5 := SV_SI (C := C) hO (show s - stp t u < str t 18 by omega)
      have huf : ∀ d, d < 18 → unitV a d ≤ dg t s d := fun d _ => by
        unfold unitV
        split
        · rename_i e; subst e; omega
        · omega
      obtain ⟨a1, a2⟩ := dg_sub hs huf
      rw [encN_unit, if_pos (by omega)] at a1 a2
      have hva : ve t u a = u.2.count a := by unfold ve; rw [if_pos ha]
      have hca := List.count_pos_iff.mpr p2
      have mono := SI_mono (C := C) (t := t) hO (s + 1) (s - stp t u) (by omega) (by omega) (s - str t a) (by omega) (fun d hd18 => by
        have q1 : dg t (s - stp t u) d = dg t s d - ve t u d := d2 d hd18
        rw [q1, a2 d hd18]
        have : unitV a d ≤ ve t u d := by
          unfold unitV
          split
          · rename_i e; subst e; omega
          · omega
        omega)
      omega
  exact ⟨key, d1', by omega⟩
theorem chs_none {Os : Nat → Nat → Nat} {C t : Nat → Nat} (hO : ∀ i, i < 6 → okO (Os i)) {s a : Nat} (hs : s < str t 18) (ha : a < 12) (hd : 0 < dg t s a) (hb : ∀ b, b < a → dg t s b = 0) (h : chs Os C t s a = none) : SV Os C t (s - str t a) = SV Os C t s := by
  unfold chs at h
  by_cases he : SV Os C t (s - str t a) = SV Os C t s
  · exact he
  · exfalso
    rw [if_neg he, List.find?_eq_none] at h
    obtain ⟨m1, m2⟩ := SI_main (C := C) hO (s + 1) s (by omega) hs a ha hd hb
    have e3 := SV_SI (C := C) hO hs
    have e4 := SV_SI (C := C) hO (show s - str t a < str t 18 by omega)
    rcases m2 with m2 | ⟨w, w1, w2, w3, w4, w5⟩
    · omega
    · refine h w w1 (Pu_iff.mpr ⟨fitV_iff.mpr w2, List.count_pos_iff.mp w3, ?_⟩)
      obtain ⟨d1, d2⟩ := dg_sub hs w2
      have d1' : stp t w ≤ s := d1
      have hW := W_sub (C := C) hs w2
      rw [ve_pr] at hW
      have hW' : pr C (dg t s) 12 = uP C w + pr C (dg t (s - stp t w)) 12 := hW
      have e1 := SV_LT (C := C) hO hs
      have e2 := SV_LT (C := C) hO (show s - stp t w < str t 18 by omega)
      have e5 := SV_SI (C := C) hO (show s - stp t w < str t 18 by omega)
      unfold sav at w4 w5
      omega
theorem chs_some {Os : Nat → Nat → Nat} {C t : Nat → Nat} (hO : ∀ i, i < 6 → okO (Os i)) {s a : Nat} (hs : s < str t 18) (ha : a < 12) (hd : 0 < dg t s a) (hb : ∀ b, b < a → dg t s b = 0) {u : Us} (h : chs Os C t s a = some u) : u ∈ allU Os t 6 ∧ (∀ d, d < 18 → ve t u d ≤ dg t s d) ∧ a ∈ u.2 ∧ uC Os C u < uP C u ∧ stp t u ≤ s ∧ SV Os C t s = (uP C u - uC Os C u) + SV Os C t (s - stp t u) := by
  unfold chs at h
  by_cases he : SV Os C t (s - str t a) = SV Os C t s
  · rw [if_pos he] at h; cases h
  · rw [if_neg he] at h
    have h1 := List.mem_of_find?_eq_some h
    have h2 := List.find?_some h
    obtain ⟨p1, p2, p3⟩ := Pu_iff.mp h2
    obtain ⟨q1, q2, q3⟩ := Pu_sav hO hs ha hd hb he h1 h2
    exact ⟨h1, fitV_iff.mp p1, p2, q1, q2, q3⟩
/-- what holds of a plan under way -/
def invP (Os : Nat → Nat → Nat) (C b : Nat → Nat) (z : Nat) (t : Nat → Nat) (s : Nat) (P : PS) : Prop := s < str t 18 ∧ (∀ a, a < 12 → 0 < t a → ug (psG P) b a z = dg t s a) ∧ (∀ j, j < z → psG P j = false → psY P j = C (b j)) ∧ (∀ j, psY P j ≤ 100000) ∧ (∀ j, j < z → psU P j = -1 ∨ ∃ m, m < psn P ∧ psU P j = nI m) ∧ psn P + sm (dg t s) 12 ≤ 10 ∧ ys (psY P) z + SV Os C t (fullS t) = bp C b z + SV Os C t s
theorem invP.hs {Os : Nat → Nat → Nat} {C b : Nat → Nat} {z : Nat} {t : Nat → Nat} {s : Nat} {P : PS} (h : invP Os C b z t s P) : s < str t 18 := h.1
theorem invP.hug {Os : Nat → Nat → Nat} {C b : Nat → Nat} {z : Nat} {t : Nat → Nat} {s : Nat} {P : PS} (h : invP Os C b z t s P) : ∀ a, a < 12 → 0 < t a → ug (psG P) b a z = dg t s a := h.2.1
theorem invP.hY {Os : Nat → Nat → Nat} {C b : Nat → Nat} {z : Nat} {t : Nat → Nat} {s : Nat} {P : PS} (h : invP Os C b z t s P) : ∀ j, j < z → psG P j = false → psY P j = C (b j) := h.2.2.1
theorem invP.hYb {Os : Nat → Nat → Nat} {C b : Nat → Nat} {z : Nat} {t : Nat → Nat} {s : Nat} {P : PS} (h : invP Os C b z t s P) : ∀ j, psY P j ≤ 100000 := h.2.2.2.1
theorem invP.hU {Os : Nat → Nat → Nat} {C b : Nat → Nat} {z : Nat} {t : Nat → Nat} {s : Nat} {P : PS} (h : invP Os C b z t s P) : ∀ j, j < z → psU P j = -1 ∨ ∃ m, m < psn P ∧ psU P j = nI m := h.2.2.2.2.1
theorem invP.hn {Os : Nat → Nat → Nat} {C b : Nat → Nat} {z : Nat} {t : Nat → Nat} {s : Nat} {P : PS} (h : invP Os C b z t s P) : psn P + sm (dg t s) 12 ≤ 10 := h.2.2.2.2.2.1
theorem invP.hsum {Os : Nat → Nat → Nat} {C b : Nat → Nat} {z : Nat} {t : Nat → Nat} {s : Nat} {P : PS} (h : invP Os C b z t s P) : ys (psY P) z + SV Os C t (fullS t) = bp C b z + SV Os C t s := h.2.2.2.2.2.2
theorem alone_dg {t : Nat → Nat} {s a : Nat} (hs : s < str t 18) (ha : a < 12) (hd : 0 < dg t s a) : str t a ≤ s ∧ ∀ d, d < 18 → dg t (s - str t a) d = dg t s d - unitV a d := by
  have huf : ∀ d, d < 18 → unitV a d ≤ dg t s d := fun d _ => by
    unfold unitV
    split
    · rename_i e; subst e; omega
    · omega
  have h := dg_sub hs huf
  rw [encN_unit, if_pos (by omega)] at h
  exact h
theorem sm_sub {e f : Nat → Nat} : ∀ n, (∀ d, d < n → f d ≤ e d) → sm (fun d => e d - f d) n + sm f n = sm e n := by
  intro n
  induction n with
  | zero => intro _; rfl
  | succ n ih =>
    intro h
    have h1 := ih (fun d hd => h d (by omega))
    have h2 := h n (by omega)
    rw [sm_s, sm_s, sm_s]
    omega
theorem use_cnt {Os : Nat → Nat → Nat} {C b : Nat → Nat} {z : Nat} {t : Nat → Nat} {s : Nat} {P : PS} (hO : ∀ i, i < 6 → okO (Os i)) (I : invP Os C b z t s P) {u : Us} (hu : u ∈ allU Os t 6) (hf : ∀ d, d < 18 → ve t u d ≤ dg t s d) : ∀ a, u.2.count a ≤ ug (psG P) b a z := by
  intro a
  obtain ⟨a1, a2, a3, a4, a5, a6⟩ := allU_el hO hu
  rcases Nat.eq_zero_or_pos (u.2.count a) with h | h
  · omega
  · have ha : a < 12 := a5 a (List.count_pos_iff.mp h)
    have h1 := a6 a
    have h2 := hf a (by omega)
    have hva : ve t u a = u.2.count a := by unfold ve; rw [if_pos ha]
    rw [I.hug a ha (by omega)]
    omega
theorem mem_sum {Os : Nat → Nat → Nat} {C b : Nat → Nat} {z : Nat} {t : Nat → Nat} {s : Nat} {P : PS} (hO : ∀ i, i < 6 → okO (Os i)) (I : invP Os C b z t s P) {u : Us} (hu : u ∈ allU Os t 6) (hf : ∀ d, d < 18 → ve t u d ≤ dg t s d) : smm (memP b z (psG P) u.2) (psY P) z = uP C u := by
  obtain ⟨a1, a2, a3, a4, a5, a6⟩ := allU_el hO hu
  obtain ⟨t1, t2, t3⟩ := take_all (C := C) (G0 := (psG P)) u.2 (psG P) (fun _ h => h) (use_cnt hO I hu hf)
  rw [smm_none, Nat.zero_add, sL_pr C u.2 a5] at t3
  rw [show uP C u = pr C (fun a => u.2.count a) 12 from rfl, ← t3]
  refine smm_congr z (fun j hj hm => ?_)
  unfold memP at hm
  rw [Bool.and_eq_true] at hm
  exact I.hY j hj (by simpa using hm.2)
theorem inv_use {Os : Nat → Nat → Nat} {C b : Nat → Nat} {z : Nat} {t : Nat → Nat} {s : Nat} {P : PS} (hO : ∀ i, i < 6 → okO (Os i)) (I : invP Os C b z t s P) {u : Us} (hu : u ∈ allU Os t 6) (hf : ∀ d, d < 18 → ve t u d ≤ dg t s d) (hlt : uC Os C u < uP C u) (hSV : SV Os C t s = (uP C u - uC Os C u) + SV Os C t (s - stp t u)) : invP Os C b z t (s - stp t u) (useP Os C b z P u) := by
  obtain ⟨a1, a2, a3, a4, a5, a6⟩ := allU_el hO hu
  obtain ⟨d1, d2⟩ := dg_sub I.hs hf
  have d1' : stp t u ≤ s := d1
  have d2' : ∀ d, d < 18 → dg t (s - stp t u) d = dg t s d - ve t u d := d2
  have hc := use_cnt hO I hu hf
  obtain ⟨t1, t2, t3⟩ := take_all (C := C) (G0 := (psG P)) u.2 (psG P) (fun _ h => h) hc
  have hms := mem_sum hO I hu hf
  have hve : ∀ d, d < 12 → ve t u d = u.2.count d := fun d hd => by unfold ve; rw [if_pos hd]
  refine ⟨by have := I.hs; omega, fun a ha h0 => ?_, fun j hj hG => ?_, fun j => ?_, fun j hj => ?_, ?_, ?_⟩
  · have h1 := t2 a
    have h2 := I.hug a ha h0
    have h3 := hf a (by omega)
    rw [d2' a (by omega), hve a ha]
    show ug (takeG b z (psG P) u.2) b a z = _
    omega
  · have h1 : takeG b z (psG P) u.2 j = false := hG
    have h2 : ¬ memP b z (psG P) u.2 j = true := fun h => by
      unfold memP at h
      rw [h1, Bool.false_and] at h
      cases h
    show spY z _ _ _ (psY P) j = _
    rw [spY_out h2]
    exact I.hY j hj (t1 j h1)
  · show spY z _ _ _ (psY P) j ≤ _
    unfold spY
    refine spL_le _ _ _ (fun i => ?_) j
    have := I.hYb i
    unfold Y1
    split <;> omega
  · show (if memP b z (psG P) u.2 j then nI (psn P) else (psU P) j) = -1 ∨ ∃ m, m < (psn P) + 1 ∧ (if memP b z (psG P) u.2 j then nI (psn P) else (psU P) j) = nI m
    by_cases hm : memP b z (psG P) u.2 j = true
    · rw [if_pos hm]; exact Or.inr ⟨(psn P), by omega, rfl⟩
    · rw [if_neg hm]
      rcases I.hU j hj with h | ⟨m, m1, m2⟩
      · exact Or.inl h
      · exact Or.inr ⟨m, by omega, m2⟩
  · have h1 := sm_sub (e := dg t s) (f := fun d => u.2.count d) 12 (fun d hd => by have := hf d (by omega); rw [hve d hd] at this; exact this)
    rw [sm_count u.2 a5] at h1
    have h2 : sm (dg t (s - stp t u)) 12 = sm (fun d => dg t s d - u.2.count d) 12 := sm_congr 12 (fun d hd => by rw [d2' d (by omega), hve d hd])
    have h3 := I.hn
    show (psn P) + 1 + sm (dg t (s - stp t u)) 12 ≤ 10
    omega
  · have h1 := spY_sum (z := z) (sv := uP C u - uC Os C u) (sum := uP C u) (mem := memP b z (psG P) u.2) (Y := (psY P)) (by omega) (by omega) hms
    have h2 := I.hsum
    show ys (spY z (uP C u - uC Os C u) (uP C u) (memP b z (psG P) u.2) (psY P)) z + _ = _
    omega
theorem inv_alone {Os : Nat → Nat → Nat} {C b : Nat → Nat} {z : Nat} {t : Nat → Nat} {s : Nat} {P : PS} (I : invP Os C b z t s P) {a : Nat} (ha : a < 12) (hd : 0 < dg t s a) (hSV : SV Os C t (s - str t a) = SV Os C t s) : invP Os C b z t (s - str t a) (aloP b z P a) ∧ fo (psG P) b a z < z := by
  obtain ⟨d1, d2⟩ := alone_dg I.hs ha hd
  have hta : 0 < t a := by have := dg_le t s a; omega
  have hug := I.hug a ha hta
  have hc1 : ∀ c, [a].count c ≤ ug (psG P) b c z := fun c => by
    rw [cnt_cons, List.count_nil]
    split
    · rename_i e; subst e; omega
    · omega
  obtain ⟨t1, t2, -⟩ := take_all (C := C) (G0 := (psG P)) [a] (psG P) (fun _ h => h) hc1
  have hst : takeG b z (psG P) [a] = stG b z (psG P) a := rfl
  rw [hst] at t1 t2
  refine ⟨⟨by have := I.hs; omega, fun c hc h0 => ?_, fun j hj hG => I.hY j hj (t1 j hG), I.hYb, I.hU, ?_, ?_⟩, ug_pos z (by omega)⟩
  · have h1 := t2 c
    have h2 := I.hug c hc h0
    rw [cnt_cons, List.count_nil] at h1
    rw [d2 c (by omega)]
    show ug (stG b z (psG P) a) b c z = _
    unfold unitV
    by_cases e : a = c
    · subst e
      rw [if_pos rfl] at h1 ⊢
      omega
    · rw [if_neg e] at h1
      rw [if_neg (fun h => e h.symm)]
      omega
  · have h1 : sm (dg t (s - str t a)) 12 ≤ sm (dg t s) 12 := sm_le 12 (fun d hd => by rw [d2 d (by omega)]; omega)
    have h2 := I.hn
    show (psn P) + _ ≤ 10
    omega
  · have h2 := I.hsum
    show ys (psY P) z + _ = _
    omega
theorem inv_step {Os : Nat → Nat → Nat} {C b : Nat → Nat} {z : Nat} {t : Nat → Nat} {s : Nat} {P : PS} (hO : ∀ i, i < 6 → okO (Os i)) (I : invP Os C b z t s P) {a : Nat} (ha : a < 12) (hd : 0 < dg t s a) (hb : ∀ b, b < a → dg t s b = 0) : invP Os C b z t (stpP Os C b z t s P a).1 (stpP Os C b z t s P a).2 ∧ sm (dg t (stpP Os C b z t s P a).1) 12 + 1 ≤ sm (dg t s) 12 := by
  unfold stpP
  cases h : chs Os C t s a with
  | none =>
    have h1 := chs_none hO I.hs ha hd hb h
    refine ⟨(inv_alone I ha hd h1).1, ?_⟩
    obtain ⟨d1, d2⟩ := alone_dg I.hs ha hd
    have h2 := sm_sub (e := dg t s) (f := unitV a) 12 (fun d _ => by unfold unitV; split; (rename_i e; subst e; omega); omega)
    have h3 : sm (dg t (s - str t a)) 12 = sm (fun d => dg t s d - unitV a d) 12 := sm_congr 12 (fun d hd => d2 d (by omega))
    have h4 : sm (unitV a) 12 = 1 := by
      rw [sm_congr (f := fun d => if a = d then 1 else 0) 12 (fun d _ => by
        unfold unitV
        by_cases e : a = d
        · rw [if_pos e, if_pos e.symm]
        · rw [if_neg e, if_neg (fun h => e h.symm)]), sm_one, if_pos ha]
    show sm (dg t (s - str t a)) 12 + 1 ≤ _
    omega
  | some u =>
    obtain ⟨u1, u2, u3, u4, u5, u6⟩ := chs_some hO I.hs ha hd hb h
    have I2 := inv_use hO I u1 u2 u4 u6
    refine ⟨I2, ?_⟩
    have hve : ∀ d, d < 12 → ve t u d = u.2.count d := fun d hd => by unfold ve; rw [if_pos hd]
    obtain ⟨a1, a2, a3, a4, a5, a6⟩ := allU_el hO u1
    obtain ⟨d1, d2⟩ := dg_sub I.hs u2
    have d2' : ∀ d, d < 18 → dg t (s - stp t u) d = dg t s d - ve t u d := d2
    have h1 := sm_sub (e := dg t s) (f := fun d => u.2.count d) 12 (fun d hd => by have := u2 d (by omega); rw [hve d hd] at this; exact this)
    rw [sm_count u.2 a5] at h1
    have h2 : sm (dg t (s - stp t u)) 12 = sm (fun d => dg t s d - u.2.count d) 12 := sm_congr 12 (fun d hd => by rw [d2' d (by omega), hve d hd])
    show sm (dg t (s - stp t u)) 12 + 1 ≤ _
    omega
theorem sm_z {v : Nat → Nat} {n b : Nat} (h : sm v n = 0) (hb : b < n) : v b = 0 := by
  have h2 : ∀ n, b < n → v b ≤ sm v n := by
    intro n
    induction n with
    | zero => intro h; omega
    | succ n ih =>
      intro h
      rw [sm_s]
      by_cases e : b = n
      · subst e; omega
      · have := ih (by omega); omega
  have := h2 n hb
  omega
theorem planF_stop {Os : Nat → Nat → Nat} {C b : Nat → Nat} {z : Nat} {t : Nat → Nat} {x : Nat × PS} (h : ∀ a, a < 12 → dg t x.1 a = 0) : ∀ m, planF Os C b z t m x = x := by
  intro m
  cases m with
  | zero => rfl
  | succ m =>
    show (if laF (dg t x.1) 12 < 12 then _ else x) = x
    rw [laF_no 12 h, if_neg (by omega)]
theorem planF_more {Os : Nat → Nat → Nat} {C b : Nat → Nat} {z : Nat} {t : Nat → Nat} (hO : ∀ i, i < 6 → okO (Os i)) (k : Nat) : ∀ (m : Nat) (x : Nat × PS), invP Os C b z t x.1 x.2 → sm (dg t x.1) 12 ≤ m → planF Os C b z t (m + k) x = planF Os C b z t m x := by
  intro m
  induction m with
  | zero =>
    intro x _ h
    rw [planF_stop (fun a ha => sm_z (by omega) ha)]
    rfl
  | succ m ih =>
    intro x I h
    rw [show m + 1 + k = (m + k) + 1 by omega]
    show (if laF (dg t x.1) 12 < 12 then planF Os C b z t (m + k) _ else x) = (if laF (dg t x.1) 12 < 12 then planF Os C b z t m _ else x)
    by_cases hl : laF (dg t x.1) 12 < 12
    · rw [if_pos hl, if_pos hl]
      obtain ⟨l1, l2⟩ := laF_lt 12 hl
      obtain ⟨i1, i2⟩ := inv_step hO I hl l1 l2
      exact ih _ i1 (by omega)
    · rw [if_neg hl, if_neg hl]
/-- at the end nothing is left, and what is paid is the least total -/
theorem planF_end {Os : Nat → Nat → Nat} {C b : Nat → Nat} {z : Nat} {t : Nat → Nat} (hO : ∀ i, i < 6 → okO (Os i)) : ∀ (m : Nat) (x : Nat × PS), invP Os C b z t x.1 x.2 → sm (dg t x.1) 12 ≤ m → invP Os C b z t (planF Os C b z t m x).1 (planF Os C b z t m x).2 ∧ ∀ a, a < 12 → dg t (planF Os C b z t m x).1 a = 0 := by
  intro m
  induction m with
  | zero => intro x I h; exact ⟨I, fun a ha => sm_z (show sm (dg t x.1) 12 = 0 by omega) ha⟩
  | succ m ih =>
    intro x I h
    have e : planF Os C b z t (m + 1) x = if laF (dg t x.1) 12 < 12 then planF Os C b z t m (stpP Os C b z t x.1 x.2 (laF (dg t x.1) 12)) else x := rfl
    rw [e]
    by_cases hl : laF (dg t x.1) 12 < 12
    · rw [if_pos hl]
      obtain ⟨l1, l2⟩ := laF_lt 12 hl
      obtain ⟨i1, i2⟩ := inv_step hO I hl l1 l2
      exact ih _ i1 (by omega)
    · rw [if_neg hl]
      exact ⟨I, laF_ge hl⟩
