/-! choosePlace: the lists of a use, one after another -/
theorem pf_cB (N : Nat) (cP : St → Int32 → Int32 → (St → Prop) → Prop) {υ τ ω ι ϕ : St} {O : Nat → Nat} (hO : repO ω O) {o p a c : Nat} (ho : o < 6) (ha : a < 12) (h6 : υ 6 a = nI c) (post : St → Prop) (h : wp_Uses_chooseBehind_45 N cP τ ω ι ϕ (nI o) post (nI a) (nI (if O 0 = 2 then 0 else a)) (nI (p + 1)) (s2 υ 6 a (nI c + 1))) : wp_Uses_chooseBehind N cP υ τ ω ι ϕ (nI p) (nI a) (nI o) post := by
  unfold wp_Uses_chooseBehind wp_Uses_chooseBehind_19
  have hk0 := hO.2.2.1
  rw [hO.1 0 (by omega), nI_clamp (by omega), h6, nI_1 p]
  refine ⟨vp_in_nI ho (by decide), pk_eq (O 0) 2 (fun e => ?_) (fun e => ?_)⟩
  · refine ⟨vp_in_nI ha (by decide), vp_in_nI ha (by decide), fun υ5 e5 => ⟨fun _ => ?_, fun h => absurd rfl h⟩⟩
    rw [e5]
    rw [if_pos e] at h; exact h
  · refine ⟨vp_in_nI ha (by decide), vp_in_nI ha (by decide), fun υ5 e5 => ⟨fun h => absurd h (by decide), fun _ => ?_⟩⟩
    rw [e5]
    rw [if_neg e] at h; exact h
theorem pf_cP (N : Nat) (hN : 13 ≤ N) {τ ω ι ϕ : St} {O t : Nat → Nat} {o : Nat} (ho : o < 6) (hO : repO ω O) (hι : ∀ d, d < 12 → ι 0 d = nI (t d) ∧ t d < 100) {σT : Type} (J : σT → St → Prop) (f : σT → List Nat → σT) (hJ : ∀ σ υ u, (∀ d, d ≠ 6 → u d = υ d) → J σ υ → J σ u) :
    ∀ (d : Nat) (pre : List Nat) (lo : Nat) (υ : St) (σ : σT) (post : St → Prop), pre.length ≤ uLen O → uLen O ≤ pre.length + d → lo ≤ 12 → (∀ a, a < 12 → υ 6 a = nI (pre.count a)) → J σ υ →
    (∀ l ∈ ext O t (uLen O - pre.length) lo pre, ∀ υ σ, (∀ a, a < 12 → υ 6 a = nI (l.count a)) → J σ υ → ∀ post : St → Prop, (∀ u, u 6 = υ 6 → J (f σ l) u → post u) → wp_Uses_keep N υ τ ω ϕ (nI o) post) →
    (∀ u, (∀ a, a < 12 → u 6 a = nI (pre.count a)) → J (List.foldl f σ (ext O t (uLen O - pre.length) lo pre)) u → post u) → wp_cP N τ ω ι ϕ (nI o) d υ (nI pre.length) (nI lo) post := by
  have hu := uLen_le hO.2.2
  have keepC : ∀ (pre : List Nat) (lo : Nat) (υ : St) (σ : σT) (post : St → Prop), pre.length = uLen O → (∀ a, a < 12 → υ 6 a = nI (pre.count a)) → J σ υ →
    (∀ l ∈ ext O t (uLen O - pre.length) lo pre, ∀ υ σ, (∀ a, a < 12 → υ 6 a = nI (l.count a)) → J σ υ → ∀ post : St → Prop, (∀ u, u 6 = υ 6 → J (f σ l) u → post u) → wp_Uses_keep N υ τ ω ϕ (nI o) post) →
    (∀ u, (∀ a, a < 12 → u 6 a = nI (pre.count a)) → J (List.foldl f σ (ext O t (uLen O - pre.length) lo pre)) u → post u) → wp_Uses_keep N υ τ ω ϕ (nI o) post := by
    intro pre lo υ σ post hl h6 hσ hk hp
    have e : ext O t (uLen O - pre.length) lo pre = [pre] := by rw [hl, Nat.sub_self]; rfl
    rw [e] at hk hp
    refine hk pre List.mem_cons_self υ σ h6 hσ post (fun u e6 hu => hp u (fun a ha => by rw [e6]; exact h6 a ha) hu)
  intro d
  induction d with
  | zero =>
    intro pre lo υ σ post hl hd hlo h6 hσ hk hp
    have hl2 : pre.length = uLen O := by omega
    show wp_Uses_choosePlace N (fun _ _ _ _ => False) υ τ ω ι ϕ (nI pre.length) (nI lo) (nI o) post
    unfold wp_Uses_choosePlace
    refine ⟨vp_in_nI ho (by decide), pf_unitsOfUse N hO _ (pk_le (uLen O) pre.length (fun _ => ?_) (fun h => by omega))⟩
    exact keepC pre lo υ σ _ hl2 h6 hσ hk hp
  | succ d ih =>
    intro pre lo υ σ post hl hd hlo h6 hσ hk hp
    show wp_Uses_choosePlace N (fun υ a b post => wp_Uses_chooseBehind N (fun υ a b post => wp_cP N τ ω ι ϕ (nI o) d υ a b post) υ τ ω ι ϕ a b (nI o) post) υ τ ω ι ϕ (nI pre.length) (nI lo) (nI o) post
    unfold wp_Uses_choosePlace
    refine ⟨vp_in_nI ho (by decide), pf_unitsOfUse N hO _ (pk_le (uLen O) pre.length (fun _ => ?_) (fun hlt => ?_))⟩
    · exact keepC pre lo υ σ _ (by omega) h6 hσ hk hp
    · obtain ⟨k, hk1⟩ : ∃ k, uLen O - pre.length = k + 1 := ⟨uLen O - pre.length - 1, by omega⟩
      rw [hk1] at hk hp
      unfold ext at hk hp
      refine pk_lt pre.length 4 (fun _ => ?_) (fun h => by omega)
      have loop : ∀ (n a : Nat) (υ : St) (σ : σT), lo ≤ a → a ≤ 12 → 12 - a < n → (∀ b, b < 12 → υ 6 b = nI (pre.count b)) → J σ υ → (∀ u, (∀ b, b < 12 → u 6 b = nI (pre.count b)) → J (List.foldl f σ (exL (fun a => if pre.count a < t a ∧ tk O pre.length a = true then ext O t k (if O 0 = 2 then 0 else a) (pre ++ [a]) else []) (12 - a) a)) u → post u) → wp_Uses_choosePlace_36 N (fun υ a b post => wp_Uses_chooseBehind N (fun υ a b post => wp_cP N τ ω ι ϕ (nI o) d υ a b post) υ τ ω ι ϕ a b (nI o) post) τ ω ι ϕ (nI o) post n (nI pre.length) (nI a) υ := by
        intro n
        induction n with
        | zero => intro a υ σ _ _ h; omega
        | succ n ihn =>
          intro a υ σ hla ha hn h6 hσ hp
          rw [wp_Uses_choosePlace_36]
          refine pk_le 12 a (fun hq => ?_) (fun hq => ?_)
          · have : a = 12 := by omega
            subst this
            exact hp υ h6 hσ
          · have ha2 : a < 12 := by omega
            have hcl : pre.count a ≤ 4 := Nat.le_trans List.count_le_length (by omega)
            have hι2 := hι a ha2
            have hcnt : 12 - a = (12 - (a + 1)) + 1 := by omega
            rw [hcnt] at hp
            unfold exL at hp
            rw [List.foldl_append] at hp
            rw [nI_clamp (by omega), hι2.1, h6 a ha2]
            have skip : ¬ (pre.count a < t a ∧ tk O pre.length a = true) → wp_Uses_choosePlace_83 N (fun υ a b post => wp_Uses_chooseBehind N (fun υ a b post => wp_cP N τ ω ι ϕ (nI o) d υ a b post) υ τ ω ι ϕ a b (nI o) post) τ ω ι ϕ (nI o) post (wp_Uses_choosePlace_36 N (fun υ a b post => wp_Uses_chooseBehind N (fun υ a b post => wp_cP N τ ω ι ϕ (nI o) d υ a b post) υ τ ω ι ϕ a b (nI o) post) τ ω ι ϕ (nI o) post n) (nI pre.length) (nI a) υ := by
              intro hc
              unfold wp_Uses_choosePlace_83
              rw [nI_1]
              rw [if_neg hc] at hp
              exact ihn (a + 1) υ σ (by omega) (by omega) (by omega) h6 hσ hp
            refine ⟨vp_in_nI ha2 (by decide), vp_in_nI (by omega) (by decide), pk_le (t a) (pre.count a) (fun hc => skip (fun h => by omega)) (fun hc => ?_)⟩
            refine pf_takesAt N hO (by omega) ha2 _ ?_
            by_cases ht : tk O pre.length a = true
            · rw [if_pos ht]
              refine ⟨fun h => absurd h (by decide), fun _ => ?_⟩
              have hcond : pre.count a < t a ∧ tk O pre.length a = true := ⟨hc, ht⟩
              rw [if_pos hcond] at hp
              have hpl : (pre ++ [a]).length = pre.length + 1 := by rw [List.length_append, List.length_singleton]
              have hk2 : uLen O - (pre ++ [a]).length = k := by rw [hpl]; omega
              have behind : ∀ lo2, lo2 = (if O 0 = 2 then 0 else a) → wp_Uses_chooseBehind_45 N (fun υ a b post => wp_cP N τ ω ι ϕ (nI o) d υ a b post) τ ω ι ϕ (nI o) (fun u13 => (wp_Uses_choosePlace_83 N (fun υ a b post => wp_Uses_chooseBehind N (fun υ a b post => wp_cP N τ ω ι ϕ (nI o) d υ a b post) υ τ ω ι ϕ a b (nI o) post) τ ω ι ϕ (nI o) post (wp_Uses_choosePlace_36 N (fun υ a b post => wp_Uses_chooseBehind N (fun υ a b post => wp_cP N τ ω ι ϕ (nI o) d υ a b post) υ τ ω ι ϕ a b (nI o) post) τ ω ι ϕ (nI o) post n) (nI pre.length) (nI a) u13)) (nI a) (nI lo2) (nI (pre.length + 1)) (s2 υ 6 a (nI (pre.count a) + 1)) := by
                intro lo2 hlo2
                unfold wp_Uses_chooseBehind_45
                rw [← hpl]
                refine ih (pre ++ [a]) lo2 _ σ _ (by rw [hpl]; omega) (by rw [hpl]; omega) (by rw [hlo2]; split <;> omega) (fun b hb => ?_) (hJ σ υ _ (fun d hd => s2_comp _ _ _ _ hd) hσ) (fun l hl => hk l ?_) (fun u hu6 hu => ?_)
                · rw [cnt_snoc]
                  by_cases e : a = b
                  · subst e; rw [s2_same, if_pos rfl, nI_1]
                  · rw [s2_ne _ _ _ _ (Or.inr (fun h => e h.symm)), if_neg e, Nat.add_zero]; exact h6 b hb
                · rw [hk2, hlo2] at hl
                  refine (exL_mem _ _).mpr ⟨a, hla, by omega, ?_⟩
                  rw [if_pos hcond]
                  exact hl
                · rw [nI_clamp (by omega)]
                  refine ⟨vp_in_nI ha2 (by decide), vp_in_nI ha2 (by decide), fun υ11 e11 => ?_⟩
                  unfold wp_Uses_choosePlace_83
                  rw [nI_1]
                  rw [hk2, hlo2] at hu
                  refine ihn (a + 1) υ11 _ (by omega) (by omega) (by omega) (fun b hb => ?_) (hJ _ u _ (fun d hd => by rw [e11, s2_comp _ _ _ _ hd]) hu) hp
                  have hub := hu6 b hb
                  rw [cnt_snoc] at hub
                  by_cases e : a = b
                  · subst e
                    rw [if_pos rfl] at hub
                    rw [e11, s2_same, hub, show (1 : Int32) = nI 1 from rfl, pk_sub (by omega), Nat.add_sub_cancel]
                  · rw [if_neg e, Nat.add_zero] at hub
                    rw [e11, s2_ne _ _ _ _ (Or.inr (fun h => e h.symm)), hub]
              exact pf_cB N _ hO ho ha2 (h6 a ha2) _ (behind _ rfl)
            · rw [if_neg ht]
              exact ⟨fun _ => skip (fun h => ht h.2), fun h => absurd rfl h⟩
      exact loop N lo υ σ (by omega) hlo (by omega) h6 hσ hp
