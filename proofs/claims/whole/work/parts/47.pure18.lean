/-! uses as vectors of digits; the least total of a state; the greatest saving -/
def pr (C c : Nat → Nat) : Nat → Nat
  | 0 => 0
  | n + 1 => pr C c n + c n * C n
theorem pr_s (C c : Nat → Nat) (n : Nat) : pr C c (n + 1) = pr C c n + c n * C n := rfl
def lowP (C c : Nat → Nat) : Nat → Nat
  | 0 => 100000
  | n + 1 => if 0 < c n then (if C n < lowP C c n then C n else lowP C c n) else lowP C c n
def uCost (O : Nat → Nat) (P low : Nat) : Nat := if O 0 = 1 then P - low else if O 0 = 3 then P - low + (low * (if O 2 < 100 then O 2 else 100) + 50) / 100 else O 2
abbrev Us := Nat × List Nat
def uP (C : Nat → Nat) (u : Us) : Nat := pr C (fun a => u.2.count a) 12
def uC (Os : Nat → Nat → Nat) (C : Nat → Nat) (u : Us) : Nat := uCost (Os u.1) (uP C u) (lowP C (fun a => u.2.count a) 12)
def ve (t : Nat → Nat) (u : Us) : Nat → Nat := fun d => if d < 12 then u.2.count d else if d = 12 + u.1 ∧ 0 < t d then 1 else 0
def stp (t : Nat → Nat) (u : Us) : Nat := encN t (ve t u) 18
def allU (Os : Nat → Nat → Nat) (t : Nat → Nat) : Nat → List Us
  | 0 => []
  | n + 1 => allU Os t n ++ (if Os n 4 = 1 then (ext (Os n) t (uLen (Os n)) 0 []).map (fun l => (n, l)) else [])
abbrev fitV (t : Nat → Nat) (s : Nat) (u : Us) : Bool := leB (ve t u) (dg t s) 18
theorem allU_mem {Os : Nat → Nat → Nat} {t : Nat → Nat} {u : Us} : ∀ n, u ∈ allU Os t n ↔ u.1 < n ∧ Os u.1 4 = 1 ∧ u.2 ∈ ext (Os u.1) t (uLen (Os u.1)) 0 [] := by
  intro n
  induction n with
  | zero => exact ⟨fun h => (by cases h), fun h => by omega⟩
  | succ n ih =>
    unfold allU
    rw [List.mem_append, ih]
    constructor
    · rintro (⟨h1, h2⟩ | h)
      · exact ⟨by omega, h2⟩
      · split at h
        · rename_i h4
          obtain ⟨l, h5, rfl⟩ := List.mem_map.mp h
          exact ⟨Nat.lt_succ_self _, h4, h5⟩
        · cases h
    · rintro ⟨h1, h2, h3⟩
      by_cases hn : u.1 = n
      · right
        subst hn
        rw [if_pos h2]
        exact List.mem_map.mpr ⟨u.2, h3, rfl⟩
      · exact Or.inl ⟨by omega, h2, h3⟩
theorem encN_add {t e f : Nat → Nat} : ∀ n, encN t (fun d => e d + f d) n = encN t e n + encN t f n := by
  intro n
  induction n with
  | zero => rfl
  | succ n ih => rw [encN_s, encN_s, encN_s, ih, Nat.add_mul]; omega
theorem pr_add {C e f : Nat → Nat} : ∀ n, pr C (fun d => e d + f d) n = pr C e n + pr C f n := by
  intro n
  induction n with
  | zero => rfl
  | succ n ih => rw [pr_s, pr_s, pr_s, ih, Nat.add_mul]; omega
theorem pr_congr {C e f : Nat → Nat} : ∀ n, (∀ d, d < n → e d = f d) → pr C e n = pr C f n := by
  intro n
  induction n with
  | zero => intro _; rfl
  | succ n ih => intro h; rw [pr_s, pr_s, ih (fun d hd => h d (by omega)), h n (by omega)]
theorem dg_sub {t e : Nat → Nat} {s : Nat} (hs : s < str t 18) (he : ∀ d, d < 18 → e d ≤ dg t s d) : encN t e 18 ≤ s ∧ ∀ d, d < 18 → dg t (s - encN t e 18) d = dg t s d - e d := by
  have h1 := enc_dg 18 s hs
  have h2 : encN t (dg t s) 18 = encN t (fun d => (dg t s d - e d) + e d) 18 := encN_congr 18 (fun d hd => by have := he d hd; omega)
  rw [encN_add] at h2
  have h3 : s - encN t e 18 = encN t (fun d => dg t s d - e d) 18 := by omega
  refine ⟨by omega, fun d hd => ?_⟩
  rw [h3, dg_enc 18 d hd (fun i hi => by have := dg_le t s i; omega)]
theorem W_sub {C t e : Nat → Nat} {s : Nat} (hs : s < str t 18) (he : ∀ d, d < 18 → e d ≤ dg t s d) : pr C (dg t s) 12 = pr C e 12 + pr C (dg t (s - encN t e 18)) 12 := by
  obtain ⟨h1, h2⟩ := dg_sub hs he
  rw [← pr_add]
  refine pr_congr 12 (fun d hd => ?_)
  have := he d (by omega)
  rw [h2 d (by omega)]
  omega
def unitV (a : Nat) : Nat → Nat := fun d => if d = a then 1 else 0
theorem encN_unit (t : Nat → Nat) (a : Nat) : ∀ n, encN t (unitV a) n = if a < n then str t a else 0 := by
  intro n
  induction n with
  | zero => rfl
  | succ n ih =>
    rw [encN_s, ih]
    unfold unitV
    by_cases h : n = a
    · subst h
      rw [if_neg (by omega), if_pos rfl, if_pos (by omega)]; omega
    · rw [if_neg h]
      by_cases h2 : a < n
      · rw [if_pos h2, if_pos (by omega)]; omega
      · rw [if_neg h2, if_neg (by omega)]; omega
theorem pr_unit (C : Nat → Nat) (a : Nat) : ∀ n, pr C (unitV a) n = if a < n then C a else 0 := by
  intro n
  induction n with
  | zero => rfl
  | succ n ih =>
    rw [pr_s, ih]
    unfold unitV
    by_cases h : n = a
    · subst h
      rw [if_neg (by omega), if_pos rfl, if_pos (by omega)]; omega
    · rw [if_neg h]
      by_cases h2 : a < n
      · rw [if_pos h2, if_pos (by omega)]; omega
      · rw [if_neg h2, if_neg (by omega)]; omega
/-- the least over a list, from b on -/
def mnl (g : Us → Nat) : List Us → Nat → Nat
  | [], b => b
  | u :: r, b => mnl g r (if g u < b then g u else b)
theorem mnl_le (g : Us → Nat) : ∀ (l : List Us) (b : Nat), mnl g l b ≤ b := by
  intro l
  induction l with
  | nil => intro b; exact Nat.le_refl _
  | cons u r ih =>
    intro b
    unfold mnl
    refine Nat.le_trans (ih _) ?_
    split <;> omega
theorem mnl_le_mem (g : Us → Nat) : ∀ (l : List Us) (b : Nat) (u : Us), u ∈ l → mnl g l b ≤ g u := by
  intro l
  induction l with
  | nil => intro b u h; cases h
  | cons w r ih =>
    intro b u h
    unfold mnl
    rcases List.mem_cons.mp h with h | h
    · subst h
      refine Nat.le_trans (mnl_le g r _) ?_
      split <;> omega
    · exact ih _ u h
theorem mnl_att (g : Us → Nat) : ∀ (l : List Us) (b : Nat), mnl g l b = b ∨ ∃ u ∈ l, mnl g l b = g u := by
  intro l
  induction l with
  | nil => intro b; exact Or.inl rfl
  | cons w r ih =>
    intro b
    unfold mnl
    split
    · rcases ih (g w) with h | ⟨u, h1, h2⟩
      · exact Or.inr ⟨w, List.mem_cons_self, h⟩
      · exact Or.inr ⟨u, List.mem_cons_of_mem _ h1, h2⟩
    · rcases ih b with h | ⟨u, h1, h2⟩
      · exact Or.inl h
      · exact Or.inr ⟨u, List.mem_cons_of_mem _ h1, h2⟩
theorem mnl_congr {g f : Us → Nat} : ∀ (l : List Us) (b : Nat), (∀ u ∈ l, g u = f u) → mnl g l b = mnl f l b := by
  intro l
  induction l with
  | nil => intro b _; rfl
  | cons w r ih =>
    intro b h
    unfold mnl
    rw [h w List.mem_cons_self]
    exact ih _ (fun u hu => h u (List.mem_cons_of_mem _ hu))
def Fl (Os : Nat → Nat → Nat) (C t : Nat → Nat) (L : Nat → Nat) (s : Nat) : Nat := mnl (fun u => uC Os C u + L (s - stp t u)) ((allU Os t 6).filter (fitV t s)) (pr C (dg t s) 12)
def LT (Os : Nat → Nat → Nat) (C t : Nat → Nat) : Nat → Nat := fixT (Fl Os C t)
theorem allU_el {Os : Nat → Nat → Nat} {t : Nat → Nat} {u : Us} (hO : ∀ i, i < 6 → okO (Os i)) (hu : u ∈ allU Os t 6) : u.1 < 6 ∧ u.2.length = uLen (Os u.1) ∧ 2 ≤ u.2.length ∧ u.2.length ≤ 4 ∧ (∀ x ∈ u.2, x < 12) ∧ ∀ a, u.2.count a ≤ t a := by
  obtain ⟨h1, h2, h3⟩ := (allU_mem 6).mp hu
  obtain ⟨s, e, hl, hx⟩ := ext_pre _ _ _ h3
  rw [List.nil_append] at e
  have h4 := uLen_le (hO u.1 h1)
  refine ⟨h1, by rw [e, hl], by rw [e, hl]; exact h4.1, by rw [e, hl]; exact h4.2, by rw [e]; exact hx, ?_⟩
  exact ext_cnt _ _ _ h3 (fun a => by rw [List.count_nil]; exact Nat.zero_le _)
theorem fitV_iff {t : Nat → Nat} {s : Nat} {u : Us} : fitV t s u = true ↔ ∀ d, d < 18 → ve t u d ≤ dg t s d := leB_iff _ _ 18
theorem stp_pos {Os : Nat → Nat → Nat} {t : Nat → Nat} {u : Us} (hO : ∀ i, i < 6 → okO (Os i)) (hu : u ∈ allU Os t 6) : 0 < stp t u := by
  obtain ⟨h1, h2, h3, h4, h5, h6⟩ := allU_el hO hu
  cases hl : u.2 with
  | nil => rw [hl] at h3; simp at h3
  | cons x r =>
    have hx : x < 12 := h5 x (by rw [hl]; exact List.mem_cons_self)
    have hc : 0 < u.2.count x := List.count_pos_iff.mpr (by rw [hl]; exact List.mem_cons_self)
    have h7 := digit_le_enc (t := t) (v := ve t u) (d := x) 18 (by omega)
    have h8 : ve t u x = u.2.count x := by unfold ve; rw [if_pos hx]
    rw [h8] at h7
    have h9 : 1 * 1 ≤ u.2.count x * str t x := Nat.mul_le_mul hc (str_pos t x)
    unfold stp
    omega
theorem LT_eq {Os : Nat → Nat → Nat} {C t : Nat → Nat} (hO : ∀ i, i < 6 → okO (Os i)) {s : Nat} (hs : s < str t 18) : LT Os C t s = Fl Os C t (LT Os C t) s := by
  refine fixT_eq (fun f g h => ?_)
  unfold Fl
  refine mnl_congr _ _ (fun u hu => ?_)
  obtain ⟨h1, h2⟩ := List.mem_filter.mp hu
  have h3 := (dg_sub hs (fitV_iff.mp h2)).1
  have h4 := stp_pos hO h1
  have h5 : stp t u ≤ s := h3
  rw [h (s - stp t u) (by omega)]
def SI (Os : Nat → Nat → Nat) (C t : Nat → Nat) (s : Nat) : Int := (pr C (dg t s) 12 : Int) - LT Os C t s
def sav (Os : Nat → Nat → Nat) (C : Nat → Nat) (u : Us) : Int := (uP C u : Int) - uC Os C u
theorem ve_pr {C t : Nat → Nat} {u : Us} : pr C (ve t u) 12 = uP C u := by
  unfold uP
  refine pr_congr 12 (fun d hd => ?_)
  unfold ve; rw [if_pos hd]
theorem SI_ge {Os : Nat → Nat → Nat} {C t : Nat → Nat} (hO : ∀ i, i < 6 → okO (Os i)) {s : Nat} (hs : s < str t 18) {u : Us} (hu : u ∈ allU Os t 6) (hf : ∀ d, d < 18 → ve t u d ≤ dg t s d) : sav Os C u + SI Os C t (s - stp t u) ≤ SI Os C t s := by
  have h1 := W_sub (C := C) hs hf
  have h2 : LT Os C t s ≤ uC Os C u + LT Os C t (s - stp t u) := by
    rw [LT_eq hO hs]
    exact mnl_le_mem _ _ _ u (List.mem_filter.mpr ⟨hu, fitV_iff.mpr hf⟩)
  rw [ve_pr] at h1
  unfold sav SI
  show (uP C u : Int) - uC Os C u + ((pr C (dg t (s - encN t (ve t u) 18)) 12 : Int) - LT Os C t (s - stp t u)) ≤ _
  omega
theorem SI_nn {Os : Nat → Nat → Nat} {C t : Nat → Nat} (hO : ∀ i, i < 6 → okO (Os i)) {s : Nat} (hs : s < str t 18) : 0 ≤ SI Os C t s := by
  have h2 : LT Os C t s ≤ pr C (dg t s) 12 := by
    rw [LT_eq hO hs]
    exact mnl_le _ _ _
  unfold SI
  omega
theorem SI_att {Os : Nat → Nat → Nat} {C t : Nat → Nat} (hO : ∀ i, i < 6 → okO (Os i)) {s : Nat} (hs : s < str t 18) : SI Os C t s = 0 ∨ ∃ u ∈ allU Os t 6, (∀ d, d < 18 → ve t u d ≤ dg t s d) ∧ SI Os C t s = sav Os C u + SI Os C t (s - stp t u) := by
  have h0 := LT_eq (C := C) hO hs
  unfold Fl at h0
  rcases mnl_att (fun u => uC Os C u + LT Os C t (s - stp t u)) ((allU Os t 6).filter (fitV t s)) (pr C (dg t s) 12) with h | ⟨u, hu, h⟩
  · left
    rw [h] at h0
    unfold SI
    omega
  · right
    rw [h] at h0
    obtain ⟨h1, h2⟩ := List.mem_filter.mp hu
    have h3 := fitV_iff.mp h2
    refine ⟨u, h1, h3, ?_⟩
    have h4 := W_sub (C := C) hs h3
    rw [ve_pr] at h4
    unfold sav SI
    show _ = (uP C u : Int) - uC Os C u + ((pr C (dg t (s - encN t (ve t u) 18)) 12 : Int) - LT Os C t (s - stp t u))
    omega
theorem SI_mono {Os : Nat → Nat → Nat} {C t : Nat → Nat} (hO : ∀ i, i < 6 → okO (Os i)) : ∀ (n r : Nat), r < n → r < str t 18 → ∀ s, s < str t 18 → (∀ d, d < 18 → dg t r d ≤ dg t s d) → SI Os C t r ≤ SI Os C t s := by
  intro n
  induction n with
  | zero => intro r h; omega
  | succ n ih =>
    intro r hr hrR s hs hd
    rcases SI_att (C := C) hO hrR with h | ⟨u, hu, hf, h⟩
    · rw [h]; exact SI_nn hO hs
    · have hf2 : ∀ d, d < 18 → ve t u d ≤ dg t s d := fun d h1 => Nat.le_trans (hf d h1) (hd d h1)
      have h1 := SI_ge (C := C) hO hs hu hf2
      have hp := stp_pos hO hu
      obtain ⟨g1, g2⟩ := dg_sub hrR hf
      obtain ⟨g3, g4⟩ := dg_sub hs hf2
      have g5 : stp t u ≤ r := g1
      have h2 := ih (r - stp t u) (by omega) (by omega) (s - stp t u) (by omega) (fun d h1 => by
        have e1 := g2 d h1
        have e2 := g4 d h1
        have e3 := hd d h1
        show dg t (r - encN t (ve t u) 18) d ≤ dg t (s - encN t (ve t u) 18) d
        omega)
      omega
/-- the greatest saving goes by the least article left -/
theorem SI_main {Os : Nat → Nat → Nat} {C t : Nat → Nat} (hO : ∀ i, i < 6 → okO (Os i)) : ∀ (n s : Nat), s < n → s < str t 18 → ∀ a, a < 12 → 0 < dg t s a → (∀ b, b < a → dg t s b = 0) → SI Os C t (s - str t a) ≤ SI Os C t s ∧ (SI Os C t s = SI Os C t (s - str t a) ∨ ∃ w ∈ allU Os t 6, (∀ d, d < 18 → ve t w d ≤ dg t s d) ∧ 0 < w.2.count a ∧ 0 < sav Os C w ∧ SI Os C t s = sav Os C w + SI Os C t (s - stp t w)) := by
  intro n
  induction n with
  | zero => intro s h; omega
  | succ n ih =>
    intro s hsn hs a ha hda hlow
    have hue : encN t (unitV a) 18 = str t a := by rw [encN_unit, if_pos (by omega)]
    have huf : ∀ r, 0 < dg t r a → ∀ d, d < 18 → unitV a d ≤ dg t r d := fun r hr d hd => by
      unfold unitV
      split
      · rename_i h; subst h; omega
      · omega
    obtain ⟨a1, a2⟩ := dg_sub hs (huf s hda)
    rw [hue] at a1 a2
    have hpa := str_pos t a
    have low : SI Os C t (s - str t a) ≤ SI Os C t s := SI_mono hO (s + 1) (s - str t a) (by omega) (by omega) s hs (fun d hd => by rw [a2 d hd]; omega)
    refine ⟨low, ?_⟩
    rcases SI_att (C := C) hO hs with h | ⟨u, hu, hf, h⟩
    · left
      have := SI_nn (C := C) hO (show s - str t a < str t 18 by omega)
      omega
    · obtain ⟨b1, b2⟩ := dg_sub hs hf
      have hp := stp_pos hO hu
      have b3 : stp t u ≤ s := b1
      have b4 : ∀ d, d < 18 → dg t (s - stp t u) d = dg t s d - ve t u d := b2
      have hva : ve t u a = u.2.count a := by unfold ve; rw [if_pos ha]
      by_cases hin : 0 < u.2.count a
      · by_cases hsv : 0 < sav Os C u
        · exact Or.inr ⟨u, hu, hf, hin, hsv, h⟩
        · left
          have h2 : SI Os C t (s - stp t u) ≤ SI Os C t (s - str t a) := SI_mono hO (s + 1) (s - stp t u) (by omega) (by omega) (s - str t a) (by omega) (fun d hd => by
            rw [b4 d hd, a2 d hd]
            have : unitV a d ≤ ve t u d := by
              unfold unitV
              split
              · rename_i h9; subst h9; omega
              · omega
            omega)
          omega
      · have c1 : 0 < dg t (s - stp t u) a := by rw [b4 a (by omega), hva]; omega
        have c2 : ∀ b, b < a → dg t (s - stp t u) b = 0 := fun b hb => by rw [b4 b (by omega), hlow b hb]; omega
        obtain ⟨-, hI⟩ := ih (s - stp t u) (by omega) (by omega) a ha c1 c2
        rcases hI with h2 | ⟨w, hw, hwf, hwa, hws, h2⟩
        · left
          have f1 : ∀ d, d < 18 → ve t u d ≤ dg t (s - str t a) d := fun d hd => by
            rw [a2 d hd]
            have := hf d hd
            unfold unitV
            split
            · rename_i h9; subst h9; omega
            · omega
          have h3 := SI_ge (C := C) hO (show s - str t a < str t 18 by omega) hu f1
          have h4 : s - str t a - stp t u = s - stp t u - str t a := by omega
          rw [h4] at h3
          omega
        · right
          have f1 : ∀ d, d < 18 → ve t w d ≤ dg t s d := fun d hd => by
            have := hwf d hd
            rw [b4 d hd] at this; omega
          obtain ⟨d1, d2⟩ := dg_sub hs f1
          have hpw := stp_pos hO hw
          have d3 : stp t w ≤ s := d1
          have f2 : ∀ d, d < 18 → ve t u d ≤ dg t (s - stp t w) d := fun d hd => by
            have e1 := d2 d hd
            have e2 := hwf d hd
            have e3 := hf d hd
            rw [b4 d hd] at e2
            show ve t u d ≤ dg t (s - encN t (ve t w) 18) d
            omega
          have h3 := SI_ge (C := C) hO (show s - stp t w < str t 18 by omega) hu f2
          have h4 : s - stp t w - stp t u = s - stp t u - stp t w := by omega
          rw [h4] at h3
          have h5 := SI_ge (C := C) hO hs hw f1
          exact ⟨w, hw, f1, hwa, hws, by omega⟩
