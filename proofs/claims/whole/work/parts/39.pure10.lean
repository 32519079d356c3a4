/-! bestSaving, firstBestUse -/
theorem pf_bestSaving (N : Nat) (hN : 1261 ≤ N) {κ υ : St} {t v st : Nat → Nat} (ht : ∀ d, d < 18 → κ 0 d = nI (t d) ∧ t d < 100) (hv : ∀ d, d < 18 → κ 2 d = nI (v d) ∧ v d < 100) (hst : ∀ d, d < 18 → κ 1 d = nI (st d)) {z : Nat} {o l : Nat → Nat} {A : Nat → Nat → Nat} {sv sp : Nat → Nat} (hU : repU υ z o l A sv sp) {S : Nat → Nat} {x : Nat} (hx : x < 3000) (hS : ∀ s, s < x → κ 3 s = nI (S s) ∧ S s ≤ 1000000)
    (ch : Nat → List Nat) (hch : ∀ a, a < 12 → chn υ z (υ 4 a) (ch a) ∧ (ch a).length ≤ 1260) (hfit : ∀ a, a < 12 → ∀ j ∈ ch a, fitsU t v (o j) (l j) (apj A j) = true → sp j ≤ x ∧ 0 < sp j) (hal : ∀ a, a < 12 → 0 < v a → st a ≤ x ∧ 0 < st a)
    (post : Int32 → Unit → Prop) (h1 : ∀ a, a < 12 → 0 < v a → (∀ b, b < a → v b = 0) → post (nI (bst t v o l A sv sp S x (ch a) (S (x - st a)))) ()) (h0 : (∀ b, b < 12 → v b = 0) → post 0 ()) : wp_Planner_bestSaving N κ υ (nI x) post := by
  unfold wp_Planner_bestSaving
  refine pf_leastLeft N (by omega) υ (fun d hd => hv d (by omega)) _ (fun a ha hva hb => ?_) (fun hb => ?_)
  · refine ⟨fun _ => ⟨vp_in_nI (by omega) (by decide), ?_⟩, fun hq => absurd hq (neM1 (by omega))⟩
    obtain ⟨q1, q2⟩ := hal a ha hva
    rw [nI_clamp (by omega), hst a (by omega), pk_sub q1]
    refine pf_savedAt N υ (by omega) _ ?_
    have hSa := hS (x - st a) (by omega)
    rw [hSa.1]
    unfold wp_Uses_firstWith
    rw [nI_clamp (by omega)]
    obtain ⟨c1, c2⟩ := hch a ha
    exact ⟨vp_in_nI ha (by decide), pf_best38 N (by omega) ht hv hU hx hS post N (ch a) (S (x - st a)) 0 _ c1 (by omega) (by omega) (by omega) (hfit a ha) (h1 a ha hva hb)⟩
  · exact ⟨fun hq => absurd rfl hq, fun _ => h0 hb⟩
/-- the first use of a chain that reaches b -/
def fst1 (t v : Nat → Nat) (o l : Nat → Nat) (A : Nat → Nat → Nat) (sv sp S : Nat → Nat) (x b : Nat) : List Nat → Option Nat
  | [] => none
  | j :: r => if fitsU t v (o j) (l j) (apj A j) = true ∧ sv j + S (x - sp j) = b then some j else fst1 t v o l A sv sp S x b r
def optI : Option Nat → Int32
  | none => -1
  | some j => nI j
theorem pf_first37 (N : Nat) (hN : 5 ≤ N) {κ υ : St} {t v : Nat → Nat} (ht : ∀ d, d < 18 → κ 0 d = nI (t d) ∧ t d < 100) (hv : ∀ d, d < 18 → κ 2 d = nI (v d) ∧ v d < 100) {z : Nat} {o l : Nat → Nat} {A : Nat → Nat → Nat} {sv sp : Nat → Nat} (hU : repU υ z o l A sv sp) {S : Nat → Nat} {x b : Nat} (hb : b ≤ 2000000) (hx : x < 3000) (hS : ∀ s, s < x → κ 3 s = nI (S s) ∧ S s ≤ 1000000) (post : Int32 → Unit → Prop) :
    ∀ (n : Nat) (ch : List Nat) (k : Nat) (y : Int32), chn υ z y ch → ch.length < n → k + ch.length ≤ 1260 → (∀ j ∈ ch, fitsU t v (o j) (l j) (apj A j) = true → sp j ≤ x ∧ 0 < sp j) → post (optI (fst1 t v o l A sv sp S x b ch)) () → wp_Planner_firstBestUse_37 N κ υ post n (nI x) (nI b) y (nI k) := by
  intro n
  induction n with
  | zero => intro ch k y _ h2; omega
  | succ n ih =>
    intro ch k y hch hn hk hfit hp
    rw [wp_Planner_firstBestUse_37]
    cases ch with
    | nil =>
      have hy : y = -1 := hch
      subst hy
      unfold wp_Planner_firstBestUse_97
      exact ⟨fun _ => hp, fun _ => pf_hasNot N _ ⟨fun _ => hp, fun hq => absurd rfl hq⟩⟩
    | cons j r =>
      obtain ⟨rfl, hj, hr⟩ := hch
      have hz := hU.2.1
      simp only [List.length_cons] at hn hk
      obtain ⟨p1, p2, p3, p4, p5, p6⟩ := hU.2.2 j hj
      have next : post (optI (fst1 t v o l A sv sp S x b r)) () → wp_Planner_firstBestUse_80 N κ υ post (wp_Planner_firstBestUse_37 N κ υ post n) (nI x) (nI b) (nI j) (nI k) := by
        intro hp2
        unfold wp_Planner_firstBestUse_80 wp_Uses_nextOf
        rw [nI_clamp (by omega), nI_1]
        exact ⟨vp_in_nI (by omega) (by decide), ih r (k + 1) _ hr (by omega) (by omega) (fun i hi => hfit i (List.mem_cons_of_mem _ hi)) hp2⟩
      refine ⟨fun hc => ?_, fun hc => ?_⟩
      · rw [show (1260 : Int32) = nI 1260 from rfl, leL (by decide) (by omega)] at hc; omega
      · refine pf_has N hU.1 hj hz _ ⟨fun hq => absurd hq (by decide), fun _ => ?_⟩
        unfold fst1 at hp
        by_cases hf : fitsU t v (o j) (l j) (apj A j) = true
        · obtain ⟨q1, q2⟩ := hfit j List.mem_cons_self hf
          have hSx := hS (x - sp j) (by omega)
          refine pf_savingBehind N hU hj hx (fun s hs => (hS s hs).1) q1 q2 _ ?_
          rw [eqL (by omega) (by omega)]
          refine ⟨fun hq => next ?_, fun hq => ?_⟩
          · rw [if_neg (fun h => hq h.2)] at hp; exact hp
          · refine pf_fits N hN ht hv (by omega) p1 p2 _ ?_
            rw [if_pos hf]
            refine ⟨fun h => absurd h (by decide), fun _ => ?_⟩
            rw [if_pos ⟨hf, hq⟩] at hp; exact hp
        · rw [if_neg (fun h => hf h.1)] at hp
          refine pf_savingAny N hU hj _ _ (fun w => ⟨fun _ => next hp, fun _ => ?_⟩)
          refine pf_fits N hN ht hv (by omega) p1 p2 _ ?_
          rw [if_neg hf]
          exact ⟨fun _ => next hp, fun h => absurd rfl h⟩
