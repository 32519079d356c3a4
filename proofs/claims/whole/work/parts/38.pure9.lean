/-! the uses of a basket as lists; the greatest saving of a state -/
def chn (υ : St) (z : Nat) : Int32 → List Nat → Prop
  | x, [] => x = -1
  | x, j :: r => x = nI j ∧ j < z ∧ chn υ z (υ 3 j) r
def repU (υ : St) (z : Nat) (o l : Nat → Nat) (A : Nat → Nat → Nat) (sv sp : Nat → Nat) : Prop :=
  υ 9 0 = nI z ∧ z ≤ 1260 ∧ ∀ j, j < z → υ 0 j = nI (pkd (o j) (l j) (A j 0) (A j 1) (A j 2) (A j 3)) ∧ okP (o j) (l j) (A j 0) (A j 1) (A j 2) (A j 3) ∧ υ 1 j = nI (sv j) ∧ υ 2 j = nI (sp j) ∧ sv j ≤ 1000000 ∧ sp j < 1000000
abbrev apj (A : Nat → Nat → Nat) (j : Nat) : Nat → Nat := ap (A j 0) (A j 1) (A j 2) (A j 3)
theorem pf_savedAny (N : Nat) {κ : St} (υ : St) (x : Int32) (post : Int32 → Unit → Prop) (hp : ∀ r, post r ()) : wp_Planner_savedAt N κ υ x post := by
  unfold wp_Planner_savedAt wp_Planner_savedAt_20
  refine ⟨fun _ => hp _, fun h1 => ⟨fun _ => hp _, fun h2 => ⟨?_, hp _⟩⟩⟩
  rcases pk_ix x (n := 3000) (by decide) with h | h | ⟨j, hj, rfl⟩
  · exact absurd h h1
  · exact absurd h h2
  · exact vp_in_nI hj (by decide)
theorem pf_savingAny (N : Nat) {κ υ : St} {z : Nat} {o l : Nat → Nat} {A : Nat → Nat → Nat} {sv sp : Nat → Nat} (hU : repU υ z o l A sv sp) {j : Nat} (hj : j < z) (x : Int32) (post : Int32 → Unit → Prop) (hp : ∀ r, post r ()) : wp_Planner_savingBehind N κ υ x (nI j) post := by
  have hz := hU.2.1
  unfold wp_Planner_savingBehind wp_Uses_savingOf wp_Uses_stepOf
  exact ⟨vp_in_nI (by omega) (by decide), vp_in_nI (by omega) (by decide), pf_savedAny N υ _ _ (fun r => hp _)⟩
theorem pf_savingBehind (N : Nat) {κ υ : St} {z : Nat} {o l : Nat → Nat} {A : Nat → Nat → Nat} {sv sp : Nat → Nat} (hU : repU υ z o l A sv sp) {S : Nat → Nat} {x j : Nat} (hj : j < z) (hx : x < 3000) (hS : ∀ s, s < x → κ 3 s = nI (S s)) (hsp : sp j ≤ x) (hsp0 : 0 < sp j) (post : Int32 → Unit → Prop) (hp : post (nI (sv j + S (x - sp j))) ()) : wp_Planner_savingBehind N κ υ (nI x) (nI j) post := by
  obtain ⟨-, hz, hall⟩ := hU
  obtain ⟨-, -, h1, h2, -, -⟩ := hall j hj
  unfold wp_Planner_savingBehind wp_Uses_savingOf wp_Uses_stepOf
  rw [nI_clamp (by omega), h1, h2]
  dsimp only
  rw [pk_sub hsp]
  refine ⟨vp_in_nI (by omega) (by decide), vp_in_nI (by omega) (by decide), pf_savedAt N υ (by omega) _ ?_⟩
  rw [hS _ (by omega), nI_add]
  exact hp
/-- the greatest saving over a chain, from b on -/
def bst (t v : Nat → Nat) (o l : Nat → Nat) (A : Nat → Nat → Nat) (sv sp S : Nat → Nat) (x : Nat) : List Nat → Nat → Nat
  | [], b => b
  | j :: r, b => bst t v o l A sv sp S x r (if fitsU t v (o j) (l j) (apj A j) = true ∧ b < sv j + S (x - sp j) then sv j + S (x - sp j) else b)
theorem pf_best38 (N : Nat) (hN : 5 ≤ N) {κ υ : St} {t v : Nat → Nat} (ht : ∀ d, d < 18 → κ 0 d = nI (t d) ∧ t d < 100) (hv : ∀ d, d < 18 → κ 2 d = nI (v d) ∧ v d < 100) {z : Nat} {o l : Nat → Nat} {A : Nat → Nat → Nat} {sv sp : Nat → Nat} (hU : repU υ z o l A sv sp) {S : Nat → Nat} {x : Nat} (hx : x < 3000) (hS : ∀ s, s < x → κ 3 s = nI (S s) ∧ S s ≤ 1000000) (post : Int32 → Unit → Prop) :
    ∀ (n : Nat) (ch : List Nat) (b k : Nat) (y : Int32), chn υ z y ch → ch.length < n → b ≤ 2000000 → k + ch.length ≤ 1260 → (∀ j ∈ ch, fitsU t v (o j) (l j) (apj A j) = true → sp j ≤ x ∧ 0 < sp j) → post (nI (bst t v o l A sv sp S x ch b)) () → wp_Planner_bestSaving_38 N κ υ post n (nI x) (nI b) y (nI k) := by
  intro n
  induction n with
  | zero => intro ch b k y _ h2; omega
  | succ n ih =>
    intro ch b k y hch hn hb hk hfit hp
    rw [wp_Planner_bestSaving_38]
    cases ch with
    | nil =>
      have hy : y = -1 := hch
      subst hy
      unfold wp_Planner_bestSaving_102
      exact ⟨fun _ => hp, fun _ => pf_hasNot N _ ⟨fun _ => hp, fun hq => absurd rfl hq⟩⟩
    | cons j r =>
      obtain ⟨rfl, hj, hr⟩ := hch
      have hz := hU.2.1
      simp only [List.length_cons] at hn hk
      obtain ⟨p1, p2, p3, p4, p5, p6⟩ := hU.2.2 j hj
      have next : ∀ b2, b2 ≤ 2000000 → post (nI (bst t v o l A sv sp S x r b2)) () → wp_Planner_bestSaving_85 N κ υ post (wp_Planner_bestSaving_38 N κ υ post n) (nI x) (nI b2) (nI j) (nI k) := by
        intro b2 hb2 hp2
        unfold wp_Planner_bestSaving_85 wp_Uses_nextOf
        rw [nI_clamp (by omega), nI_1]
        exact ⟨vp_in_nI (by omega) (by decide), ih r b2 (k + 1) _ hr (by omega) hb2 (by omega) (fun i hi => hfit i (List.mem_cons_of_mem _ hi)) hp2⟩
      refine ⟨fun hc => ?_, fun hc => ?_⟩
      · rw [show (1260 : Int32) = nI 1260 from rfl, leL (by decide) (by omega)] at hc; omega
      · refine pf_has N hU.1 hj hz _ ⟨fun hq => absurd hq (by decide), fun _ => ?_⟩
        by_cases hf : fitsU t v (o j) (l j) (apj A j) = true
        · obtain ⟨q1, q2⟩ := hfit j List.mem_cons_self hf
          have hSx := hS (x - sp j) (by omega)
          refine pf_savingBehind N hU hj hx (fun s hs => (hS s hs).1) q1 q2 _ ?_
          rw [leL (by omega) (by omega)]
          unfold bst at hp
          refine ⟨fun hq => next b hb ?_, fun hq => ?_⟩
          · rw [if_neg (fun h => by omega)] at hp; exact hp
          · refine pf_fits N hN ht hv (by omega) p1 p2 _ ?_
            rw [if_pos hf]
            refine ⟨fun h => absurd h (by decide), fun _ => next _ (by omega) ?_⟩
            rw [if_pos ⟨hf, by omega⟩] at hp; exact hp
        · unfold bst at hp
          rw [if_neg (fun h => hf h.1)] at hp
          refine pf_savingAny N hU hj _ _ (fun w => ⟨fun _ => next b hb hp, fun _ => ?_⟩)
          refine pf_fits N hN ht hv (by omega) p1 p2 _ ?_
          rw [if_neg hf]
          exact ⟨fun _ => next b hb hp, fun h => absurd rfl h⟩
