/-! the reference: the plan -/
def repQ (μ : St) (z : Nat) (P : PS) : Prop := (∀ j, j < z → μ 34 j = (psF P) j ∧ μ 35 j = (psU P) j ∧ μ 36 j = nI ((psY P) j) ∧ μ 37 j = bI ((psG P) j)) ∧ μ 38 0 = nI (psn P)
theorem pf_firstOf (N : Nat) (hN : 12 ≤ N) {μ : St} {bk : Nat} {Os : Nat → Nat → Nat} {C b : Nat → Nat} {z a : Nat} (hX : repX μ bk Os C b z) (ha : a < 12) {G : Nat → Bool} (hG : ∀ j, j < z → μ 37 j = bI (G j)) (hf : fo G b a z < z) (post : Int32 → Unit → Prop) (hp : post (nI (fo G b a z)) ()) : wp_Model_firstOf N μ (nI a) post := by
  obtain ⟨hM, h22, hz, hb⟩ := hX
  obtain ⟨⟨f1, f2⟩, f3⟩ := fo_lt (G := G) (b := b) (a := a) z hf
  have loop : ∀ (n i : Nat), i ≤ fo G b a z → z - i < n → wp_Model_firstOf_2 N μ post n (nI a) (nI i) := by
    intro n
    induction n with
    | zero => intro i _ h; omega
    | succ n ih =>
      intro i hi hn
      obtain ⟨x1, x2, x3⟩ := hb i (by omega)
      have hin : vp_in (nI i) 10 := vp_in_nI (by omega) (by decide)
      rw [wp_Model_firstOf_2, h22]
      refine pk_le z i (fun h => by omega) (fun _ => ?_)
      rw [nI_clamp (by omega), hG i (by omega), x1]
      have next : i ≠ fo G b a z → wp_Model_firstOf_29 N μ post (wp_Model_firstOf_2 N μ post n) (nI a) (nI i) := by
        intro hne
        unfold wp_Model_firstOf_29
        rw [nI_1]
        exact ih (i + 1) (by omega) (by omega)
      refine ⟨hin, fun hg => ?_, fun hg => ⟨hin, fun heq => ?_, fun hne => ?_⟩⟩
      · refine next (fun e => hg ?_)
        rw [e, f1]; rfl
      · have hGi : G i = false := by
          cases hgi : G i with
          | false => rfl
          | true => rw [hgi] at hg; exact absurd hg (by decide)
        have hbi : b i = a := (eqL (by omega) (by omega)).mp heq
        have e : i = fo G b a z := by
          rcases Nat.lt_or_ge i (fo G b a z) with h | h
          · exact absurd ⟨hGi, hbi⟩ (f3 i h)
          · omega
        unfold wp_Model_firstOf_35
        rw [e]; exact hp
      · refine next (fun e => hne ?_)
        rw [e, f2]
  exact loop N 0 (by omega) (by omega)
theorem stG_repM {μ μ2 : St} {b : Nat → Nat} {z a : Nat} {G : Nat → Bool} (hG : ∀ j, j < z → μ 37 j = bI (G j)) (e : μ2 37 = s2 μ 37 (fo G b a z) (nI 1) 37) : ∀ j, j < z → μ2 37 j = bI (stG b z G a j) := by
  intro j hj
  rw [e]
  unfold stG
  by_cases ej : j = fo G b a z
  · rw [← ej, s2_same, decide_eq_true rfl, Bool.or_true]; rfl
  · rw [s2_ne _ _ _ _ (Or.inr ej), decide_eq_false ej, Bool.or_false]; exact hG j hj
theorem pf_MtakeUse (N : Nat) (hN : 12 ≤ N) {μ : St} {bk : Nat} {Os : Nat → Nat → Nat} {C b : Nat → Nat} {z s : Nat} {P : PS} (hC : ∀ a, a < 12 → C a ≤ 100000) (hR : repR μ bk Os C b z) (hQ : repQ μ z P) (I : invP Os C b z (tN Os b z) s P) {u : Us} (hm : u ∈ allU Os (tN Os b z) 6) (hf : ∀ d, d < 18 → ve (tN Os b z) u d ≤ dg (tN Os b z) s d) (hlt : uC Os C u < uP C u) (hl : fulL μ u.2) (post : St → Prop)
    (hp : ∀ w : St, (∀ d, d < 34 ∨ 38 < d → w d = μ d) → repQ w z (useP Os C b z P u) → post w) : wp_Model_takeUse N μ (nI u.1) post := by
  have hO : ∀ i, i < 6 → okO (Os i) := fun i hi => (hR.1.1.2.2 i hi).2.2.2.2.2.2
  obtain ⟨a1, a2, a3, a4, a5, a6⟩ := allU_el hO hm
  have hcu := use_cnt hO I hm hf
  have hms := mem_sum hO I hm hf
  have hz := hR.1.2.2.1
  have hbk := hR.1.1.1
  have hcost : ∀ w : St, (∀ d, d < 34 ∨ 38 < d → w d = μ d) → ∀ x ∈ u.2, w 28 x = nI (C x) := fun w hw x hx => by
    rw [hw 28 (by omega)]
    refine hR.2.2.2.2 x (a5 x hx) ?_
    have h1 := a6 x
    have h2 := List.count_pos_iff.mpr hx
    show 0 < tN Os b z x
    omega
  have hcs : ∀ p a, (u.2.take p).count a ≤ u.2.count a := fun p a => List.Sublist.count_le a (List.take_sublist _ _)
  have loop : ∀ (n p : Nat) (w : St), p ≤ u.2.length → u.2.length - p < n → (∀ d, d < 34 ∨ 38 < d → w d = μ d) → (∀ i, i < z → w 34 i = (if takeG b z (psG P) (u.2.take p) i && !(psG P) i then nI u.1 else (psF P) i) ∧ w 35 i = (if takeG b z (psG P) (u.2.take p) i && !(psG P) i then nI (psn P) else (psU P) i) ∧ w 36 i = nI ((psY P) i) ∧ w 37 i = bI (takeG b z (psG P) (u.2.take p) i)) → w 38 0 = nI (psn P) → wp_Model_takeUse_2 N post n (nI u.1) (nI p) w := by
    intro n
    induction n with
    | zero => intro p w _ h; omega
    | succ n ih =>
      intro p w hpl hn wf pj p38
      have hlw : fulL w u.2 := by
        obtain ⟨l1, l2, l3⟩ := hl
        exact ⟨by rw [wf 33 (by omega)]; exact l1, by rw [wf 31 (by omega)]; exact l2, l3⟩
      have hRw : repR w bk Os C b z := repR_same (fun d hd => wf d (by omega)) hR
      rw [wp_Model_takeUse_2, hlw.1]
      refine pk_le u.2.length p (fun hq => ?_) (fun hq => ?_)
      · have epl : p = u.2.length := by omega
        rw [epl, List.take_length] at pj
        rw [hRw.1.1.2.1, six]
        refine pf_costOfUse N (by omega) hRw.1.1 a1 hlw (by omega) a4 (hcost w wf) hC _ ?_
        have hPb := uP_le (u := u) hC a5 a4
        have e : nI (uC Os C (u.1, u.2)) = nI (uP C u - (uP C u - uC Os C u)) := by
          rw [show uP C u - (uP C u - uC Os C u) = uC Os C u by omega]
        rw [e]
        refine pf_spread N hN hz hRw.1.2.1 (mem := memP b z (psG P) u.2) (Y := (psY P)) (c := fun j => C (b j)) (sv := uP C u - uC Os C u) (sum := uP C u) (fun j hj => (hRw.1.2.2.2 j hj).2.2) (fun j hj => hC _ (hRw.1.2.2.2 j hj).2.1) (fun i hi => ?_) (fun i hi => (pj i hi).2.2.1) I.hYb (fun j hj hmj => ?_) hms (by omega) (by omega) (by omega) (fun post2 h2 => pf_priceOfList N (by omega) hlw a4 (hcost w wf) u.1 post2 h2) _ (fun x xf x36 => fun μ6 e6 => ?_)
        · rw [(pj i hi).2.1, p38]
          show (if memP b z (psG P) u.2 i then nI (psn P) else (psU P) i) = nI (psn P) ↔ memP b z (psG P) u.2 i = true
          have hn10 := I.hn
          by_cases hmi : memP b z (psG P) u.2 i = true
          · rw [if_pos hmi]; exact ⟨fun _ => hmi, fun _ => rfl⟩
          · rw [if_neg hmi]
            refine ⟨fun h => ?_, fun h => absurd h hmi⟩
            rcases I.hU i hi with h2 | ⟨m, m1, m2⟩
            · rw [h2] at h
              exact absurd h.symm (neM (by omega))
            · rw [m2] at h
              have := (eqL (by omega) (by omega)).mp h
              omega
        · unfold memP at hmj
          rw [Bool.and_eq_true] at hmj
          exact I.hY j hj (by simpa using hmj.2)
        · refine hp μ6 (fun d hd => ?_) ⟨fun i hi => ⟨?_, ?_, ?_, ?_⟩, ?_⟩
          · rw [e6, s2_comp _ _ _ _ (by omega), xf d (by omega)]; exact wf d hd
          · rw [e6, s2_comp _ _ _ _ (by decide), xf 34 (by decide)]; exact (pj i hi).1
          · rw [e6, s2_comp _ _ _ _ (by decide), xf 35 (by decide)]; exact (pj i hi).2.1
          · rw [e6, s2_comp _ _ _ _ (by decide)]; exact x36 i hi
          · rw [e6, s2_comp _ _ _ _ (by decide), xf 37 (by decide)]; exact (pj i hi).2.2.2
          · rw [e6, s2_same, xf 38 (by decide), p38, nI_1]; rfl
      · have hx := a5 _ (getD_mem hq)
        have etk : u.2.take (p + 1) = u.2.take p ++ [u.2.getD p 0] := tk_snoc hq
        have hstep : takeG b z (psG P) (u.2.take (p + 1)) = stG b z (takeG b z (psG P) (u.2.take p)) (u.2.getD p 0) := by
          rw [etk]
          unfold takeG
          rw [List.foldl_append]
          rfl
        have hcp : ∀ a, (u.2.take p).count a ≤ ug (psG P) b a z := fun a => Nat.le_trans (hcs p a) (hcu a)
        obtain ⟨t1, t2, t3⟩ := take_all (C := C) (G0 := (psG P)) (u.2.take p) (psG P) (fun _ h => h) hcp
        have hcp1 := hcs (p + 1) (u.2.getD p 0)
        rw [etk, cnt_snoc, if_pos rfl] at hcp1
        have hfo : fo (takeG b z (psG P) (u.2.take p)) b (u.2.getD p 0) z < z := by
          refine ug_pos z ?_
          have h1 := t2 (u.2.getD p 0)
          have h2 := hcu (u.2.getD p 0)
          omega
        have hGf := (fo_lt (G := takeG b z (psG P) (u.2.take p)) (b := b) (a := u.2.getD p 0) z hfo).1.1
        have hPG : (psG P) (fo (takeG b z (psG P) (u.2.take p)) b (u.2.getD p 0) z) = false := t1 _ hGf
        rw [nI_clamp (show p < 2 ^ 31 by omega), hlw.2.1 p hq]
        refine ⟨vp_in_nI (by omega) (by decide), pf_firstOf N (by omega) hRw.1 hx (fun i hi => (pj i hi).2.2.2) hfo _ ?_⟩
        have hi10 : vp_in (nI (fo (takeG b z (psG P) (u.2.take p)) b (u.2.getD p 0) z)) 10 := vp_in_nI (by omega) (by decide)
        rw [nI_clamp (by omega), nar_1, nI_1]
        refine ⟨hi10, fun μ11 e11 => ⟨hi10, fun μ13 e13 => ⟨hi10, fun μ15 e15 => ?_⟩⟩⟩
        have h38 : μ13 38 0 = nI (psn P) := by rw [e13, s2_comp _ _ _ _ (by decide), e11, s2_comp _ _ _ _ (by decide)]; exact p38
        refine ih (p + 1) μ15 (by omega) (by omega) (fun d hd => by rw [e15, s2_comp _ _ _ _ (by omega), e13, s2_comp _ _ _ _ (by omega), e11, s2_comp _ _ _ _ (by omega)]; exact wf d hd) (fun i hi => ?_) ?_
        · obtain ⟨q1, q2, q3, q4⟩ := pj i hi
          have c36 : μ15 36 = w 36 := by rw [e15, s2_comp _ _ _ _ (by decide), e13, s2_comp _ _ _ _ (by decide), e11, s2_comp _ _ _ _ (by decide)]
          have c37 : μ15 37 = s2 w 37 (fo (takeG b z (psG P) (u.2.take p)) b (u.2.getD p 0) z) (nI 1) 37 := by rw [e15, s2_comp _ _ _ _ (by decide), e13, s2_comp _ _ _ _ (by decide), e11]
          have c34 : μ15 34 = μ13 34 := by rw [e15, s2_comp _ _ _ _ (by decide)]
          have h4 := stG_repM (fun i hi => (pj i hi).2.2.2) c37 i hi
          rw [hstep]
          refine ⟨?_, ?_, by rw [c36]; exact q3, h4⟩
          · rw [c34]
            unfold stG
            by_cases e : i = fo (takeG b z (psG P) (u.2.take p)) b (u.2.getD p 0) z
            · rw [← e] at hPG ⊢
              rw [decide_eq_true rfl, Bool.or_true, hPG, e13, ← e, s2_same]
              rfl
            · rw [decide_eq_false e, Bool.or_false, e13, s2_ne _ _ _ _ (Or.inr e), e11, s2_comp _ _ _ _ (by decide)]; exact q1
          · unfold stG
            by_cases e : i = fo (takeG b z (psG P) (u.2.take p)) b (u.2.getD p 0) z
            · rw [← e] at hPG ⊢
              rw [decide_eq_true rfl, Bool.or_true, hPG, e15, ← e, s2_same, h38]
              rfl
            · rw [decide_eq_false e, Bool.or_false, e15, s2_ne _ _ _ _ (Or.inr e), e13, s2_comp _ _ _ _ (by decide), e11, s2_comp _ _ _ _ (by decide)]; exact q2
        · rw [e15, s2_comp _ _ _ _ (by decide)]; exact h38
  unfold wp_Model_takeUse
  refine loop N 0 μ (Nat.zero_le _) (by omega) (fun _ _ => rfl) (fun i hi => ?_) hQ.2
  obtain ⟨q1, q2, q3, q4⟩ := hQ.1 i hi
  rw [List.take_zero]
  show μ 34 i = (if (psG P) i && !(psG P) i then nI u.1 else (psF P) i) ∧ μ 35 i = (if (psG P) i && !(psG P) i then nI (psn P) else (psU P) i) ∧ μ 36 i = nI ((psY P) i) ∧ μ 37 i = bI ((psG P) i)
  rw [Bool.and_not_self, if_neg (by decide), if_neg (by decide)]
  exact ⟨q1, q2, q3, q4⟩
/-! findUse -/
def rU (Os : Nat → Nat → Nat) (t : Nat → Nat) (s : Nat) : Nat → Nat → List Us
  | 0, _ => []
  | k + 1, n => usO Os t s n ++ rU Os t s k (n + 1)
theorem rU_all {Os : Nat → Nat → Nat} {t : Nat → Nat} {s : Nat} (hO : ∀ i, i < 6 → okO (Os i)) (ht : ∀ o, o < 6 → Os o 4 = 1 → t (12 + o) = Os o 3 ∨ ∀ a, a < 12 → t a = 0) : ∀ k n, n + k ≤ 6 → (allU Os t n).filter (fitV t s) ++ rU Os t s k n = (allU Os t (n + k)).filter (fitV t s) := by
  intro k
  induction k with
  | zero => intro n _; exact List.append_nil _
  | succ k ih =>
    intro n hn
    show _ ++ (usO Os t s n ++ rU Os t s k (n + 1)) = _
    rw [← List.append_assoc, ← allU_fil hO ht (by omega), ih (n + 1) (by omega), show n + 1 + k = n + (k + 1) by omega]
def Qu (Os : Nat → Nat → Nat) (C t : Nat → Nat) (s a : Nat) (u : Us) : Bool := decide (a ∈ u.2) && decide (uC Os C u + LT Os C t (s - stp t u) = LT Os C t s)
theorem find_fil {p q : Us → Bool} : ∀ (l : List Us), (l.filter p).find? q = l.find? (fun u => p u && q u) := by
  intro l
  induction l with
  | nil => rfl
  | cons u r ih =>
    by_cases hp : p u = true
    · rw [List.filter_cons_of_pos hp]
      by_cases hq : q u = true
      · rw [List.find?_cons_of_pos hq, List.find?_cons_of_pos (by rw [hp, hq]; rfl)]
      · rw [List.find?_cons_of_neg hq, List.find?_cons_of_neg (by rw [hp, Bool.true_and]; exact hq), ih]
    · have hp2 : p u = false := by simpa using hp
      rw [List.filter_cons_of_neg hp, List.find?_cons_of_neg (by rw [hp2, Bool.false_and]; decide), ih]
theorem Qu_find {Os : Nat → Nat → Nat} {C t : Nat → Nat} {s a : Nat} (hO : ∀ i, i < 6 → okO (Os i)) (ht : ∀ o, o < 6 → Os o 4 = 1 → t (12 + o) = Os o 3 ∨ ∀ a, a < 12 → t a = 0) : (rU Os t s 6 0).find? (Qu Os C t s a) = (allU Os t 6).find? (Pu Os C t s a) := by
  have h := rU_all (s := s) hO ht 6 0 (by omega)
  have h0 : (allU Os t 0).filter (fitV t s) = [] := rfl
  rw [h0, List.nil_append] at h
  rw [h, find_fil]
  refine find_congr _ (fun u _ => ?_)
  show (fitV t s u && Qu Os C t s a u) = Pu Os C t s a u
  unfold Qu Pu
  rw [Bool.and_assoc]
theorem pf_findUse (N : Nat) (hN : 100001 ≤ N) {μ0 : St} {bk : Nat} {Os : Nat → Nat → Nat} {C b : Nat → Nat} {z s a : Nat} (hR : repR μ0 bk Os C b z) (hC : ∀ a, a < 12 → C a ≤ 100000) (h3000 : str (tN Os b z) 18 ≤ 3000) (hs : s < str (tN Os b z) 18) (ha : a < 12) (h24 : ∀ a, a < 12 → μ0 24 a = nI (dg (tN Os b z) s a)) (h25 : ∀ o, o < 6 → μ0 25 o = nI (dg (tN Os b z) s (12 + o))) (h30 : ∀ x, x < str (tN Os b z) 18 → μ0 30 x = nI (LT Os C (tN Os b z) x)) {u : Us} (hfind : (allU Os (tN Os b z) 6).find? (Pu Os C (tN Os b z) s a) = some u) (post : Int32 → St → Prop)
    (hp : ∀ w : St, (∀ d, d ≠ 24 → d ≠ 31 → d ≠ 32 → d ≠ 33 → w d = μ0 d) → fulL w u.2 → post (nI u.1) w) : wp_Model_findUse N μ0 (nI s) (nI a) post := by
  have hO : ∀ i, i < 6 → okO (Os i) := fun i hi => (hR.1.1.2.2 i hi).2.2.2.2.2.2
  have hz := hR.1.2.2.1
  have hsm := tN_sm Os b hz
  have htop := tN_top Os b z
  have hbk := hR.1.1.1
  rw [← Qu_find hO htop] at hfind
  have hd100 := dg_100 hsm s
  have hd5 : ∀ o, o < 6 → dg (tN Os b z) s (12 + o) < 100 := fun o ho => by
    have := dg_le (tN Os b z) s (12 + o)
    have := tN_5 (b := b) (z := z) hO ho
    omega
  have loopO : ∀ (m o : Nat) (w : St), o ≤ 6 → 6 - o < m → (∀ d, d ≠ 24 → d ≠ 31 → d ≠ 32 → d ≠ 33 → w d = μ0 d) → (∀ a, a < 12 → w 24 a = nI (dg (tN Os b z) s a)) → (rU Os (tN Os b z) s (6 - o) o).find? (Qu Os C (tN Os b z) s a) = some u → wp_Model_findUse_2 N post m (nI s) (nI a) (nI o) w := by
    intro m
    induction m with
    | zero => intro o w _ h; omega
    | succ m ihm =>
      intro o w ho hm wf w24 hfd
      have hRw : repR w bk Os C b z := repR_same (fun d hd => wf d (by omega) (by omega) (by omega) (by omega)) hR
      rw [wp_Model_findUse_2]
      refine pk_le 6 o (fun hq2 => ?_) (fun hq2 => ?_)
      · have : o = 6 := by omega
        subst this
        exact absurd hfd (by rw [Nat.sub_self]; intro h; cases h)
      · have ho2 : o < 6 := by omega
        rw [hRw.1.1.2.1, six]
        refine pf_beginUses N hRw.1.1 ho2 (v := dg (tN Os b z) s) w24 _ (fun u12 f12 hc12 => ?_)
        have erU : rU Os (tN Os b z) s (6 - o) o = usO Os (tN Os b z) s o ++ rU Os (tN Os b z) s (6 - (o + 1)) (o + 1) := by
          rw [show 6 - o = (6 - (o + 1)) + 1 by omega]; rfl
        rw [erU] at hfd
        have loopU : ∀ (k : Nat) (ρ : List (List Nat)) (x : St), ρ.length < k → (∀ l ∈ ρ, (o, l) ∈ usO Os (tN Os b z) s o) → (∀ d, d ≠ 24 → d ≠ 31 → d ≠ 32 → d ≠ 33 → x d = μ0 d) → curS (Os o) x (dg (tN Os b z) s) (uLen (Os o)) ρ → runs1 (Os o) (dg (tN Os b z) s (12 + o)) → (ρ.map (fun l => (o, l)) ++ rU Os (tN Os b z) s (6 - (o + 1)) (o + 1)).find? (Qu Os C (tN Os b z) s a) = some u → wp_Model_findUse_21 N post (wp_Model_findUse_2 N post m) k (nI s) (nI a) (nI o) x := by
          intro k
          induction k with
          | zero => intro ρ x h; omega
          | succ k ihk =>
            intro ρ x hk hρ xf hc hr hfd2
            have hRx : repR x bk Os C b z := repR_same (fun d hd => xf d (by omega) (by omega) (by omega) (by omega)) hR
            rw [wp_Model_findUse_21]
            refine pf_nextUse_go N hN hRx.1.1 ho2 (hd5 o ho2) (by rw [xf 25 (by decide) (by decide) (by decide) (by decide)]; exact h25 o ho2) hr hd100 hc _ (fun e y fy y24 => ⟨fun _ => ?_, fun h => absurd rfl h⟩) (fun l ρ2 e y fy hc2 hl hlL => ⟨fun h => absurd h (by decide), fun _ => ?_⟩)
            · subst e
              rw [nI_1]
              exact ihm (o + 1) y (by omega) (by omega) (fun d d1 d2 d3 d4 => by rw [fy d d1 d2 d3]; exact xf d d1 d2 d3 d4) y24 hfd2
            · subst e
              have yf : ∀ d, d ≠ 24 → d ≠ 31 → d ≠ 32 → d ≠ 33 → y d = μ0 d := fun d d1 d2 d3 d4 => by rw [fy d d1 d2 d3]; exact xf d d1 d2 d3 d4
              have hRy : repR y bk Os C b z := repR_same (fun d hd => yf d (by omega) (by omega) (by omega) (by omega)) hR
              obtain ⟨q1, q2, q3, q4, q5, q6, q7, q8⟩ := use_ok hRy ho2 hs (hρ l List.mem_cons_self)
              have hul := allU_el hO q1
              have go : ¬ Qu Os C (tN Os b z) s a (o, l) = true → wp_Model_findUse_21 N post (wp_Model_findUse_2 N post m) k (nI s) (nI a) (nI o) y := by
                intro hn
                refine ihk ρ2 y (by rw [List.length_cons] at hk; omega) (fun i hi => hρ i (List.mem_cons_of_mem _ hi)) yf hc2 hr ?_
                rw [List.map_cons, List.cons_append, List.find?_cons_of_neg hn] at hfd2
                exact hfd2
              refine pf_listHas N (by omega) hl q6 ha _ (fun hno => ⟨fun _ => go (fun h => ?_), fun h => absurd rfl h⟩) (fun hyes => ⟨fun h => absurd h (by decide), fun _ => ?_⟩)
              · unfold Qu at h
                rw [Bool.and_eq_true] at h
                exact hno (of_decide_eq_true h.1)
              · rw [hRy.1.1.2.1, six]
                refine pf_costOfUse N (by omega) hRy.1.1 ho2 hl q5 q6 q7 hC _ ?_
                refine pf_behindUse N (by omega) ho2 hl q6 q8 (hRy.2.2.1 o ho2) q3 _ ?_
                have hLl := LT_le (C := C) hO hC hsm (show s - stp (tN Os b z) (o, l) < str (tN Os b z) 18 by omega)
                have hLs := LT_le (C := C) hO hC hsm hs
                have hUl := uC_le (Os := Os) (C := C) (u := (o, l)) (hO o ho2) (uP_le hC hul.2.2.2.2.1 q6)
                have y30 : y 30 = μ0 30 := yf 30 (by decide) (by decide) (by decide) (by decide)
                rw [nI_clamp (by omega), nI_clamp (by omega), y30, h30 _ (by omega), h30 s hs, nI_add]
                refine ⟨vp_in_nI (by omega) (by decide), vp_in_nI (by omega) (by decide), fun hne => go (fun h => ?_), fun heq => ?_⟩
                · unfold Qu at h
                  rw [Bool.and_eq_true] at h
                  exact hne (by rw [of_decide_eq_true h.2])
                · have he := (eqL (by omega) (by omega)).mp heq
                  have hQ : Qu Os C (tN Os b z) s a (o, l) = true := by
                    unfold Qu
                    rw [decide_eq_true he, decide_eq_true (show a ∈ (o, l).2 from hyes)]; rfl
                  rw [List.map_cons, List.cons_append, List.find?_cons_of_pos hQ] at hfd2
                  have hu : u = (o, l) := (Option.some.inj hfd2).symm
                  rw [hu] at hp
                  exact hp y yf hl
        have x12 : ∀ d, d ≠ 24 → d ≠ 31 → d ≠ 32 → d ≠ 33 → u12 d = μ0 d := fun d d1 d2 d3 d4 => by rw [f12 d d2 d3 d4]; exact wf d d1 d2 d3 d4
        by_cases hr : runs1 (Os o) (dg (tN Os b z) s (12 + o))
        · have hus : usO Os (tN Os b z) s o = (ext (Os o) (dg (tN Os b z) s) (uLen (Os o)) 0 []).map (fun l => (o, l)) := if_pos hr
          have hel := ext_len (Os o) (dg (tN Os b z) s) (uLen (Os o)) 0 []
          have hul := uLen_le (hO o ho2)
          have hpw : 12 ^ uLen (Os o) ≤ 12 ^ 4 := Nat.pow_le_pow_right (by decide) hul.2
          have h124 : (12 ^ 4 : Nat) = 20736 := by decide
          rw [hus] at hfd
          exact loopU N _ u12 (by omega) (fun l hl => by rw [hus]; exact List.mem_map.mpr ⟨l, hl, rfl⟩) x12 hc12 hr hfd
        · obtain ⟨k, rfl⟩ : ∃ k, N = k + 1 := ⟨N - 1, by omega⟩
          have hus : usO Os (tN Os b z) s o = [] := if_neg hr
          have hR12 : repR u12 bk Os C b z := repR_same (fun d hd => x12 d (by omega) (by omega) (by omega) (by omega)) hR
          rw [wp_Model_findUse_21]
          refine pf_nextUse_no (k + 1) hR12.1.1 ho2 (hd5 o ho2) (by rw [x12 25 (by decide) (by decide) (by decide) (by decide)]; exact h25 o ho2) hr _ ⟨fun _ => ?_, fun h => absurd rfl h⟩
          rw [hus, List.nil_append] at hfd
          rw [nI_1]
          refine ihm (o + 1) u12 (by omega) (by omega) x12 (fun a ha => ?_) hfd
          rw [f12 24 (by decide) (by decide) (by decide)]; exact w24 a ha
  exact loopO N 0 μ0 (by omega) (by omega) (fun _ _ _ _ _ => rfl) h24 hfind
