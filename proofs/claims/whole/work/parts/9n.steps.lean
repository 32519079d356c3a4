/-! the law, call by call: receipts (by program) -/
theorem wLaw_app {k : Nat → ClassId} {gQ gM gX gB gT gK gL gU gP gR gA : Nat → Nat} {go : Nat → Nat → Nat} {ο ρ : Nat → Int64} {μ θ β τ κ υ π βk : St} {ω : Nat → St} (z : va_W) : wLaw k gQ gM gX gB gT gK gL gU gP gR gA go ο ρ μ θ β τ κ υ π βk ω z = wLaw k gQ gM gX gB gT gK gL gU gP gR gA go ο ρ μ θ β τ κ υ π βk ω [] ++ z := by
  unfold wLaw
  simp only [List.append_assoc, List.append_nil]
theorem va_P.re {D : va_G} {w w2 : va_W} {H : Heap} (h : va_P D CL w H) (e : w = w2) : va_P D CL w2 H := e ▸ h
theorem va_D.re {A : Nat → Prop} {w w2 : va_W} (h : va_D A w) (e : w = w2) : va_D A w2 := e ▸ h
set_option maxHeartbeats 2000000 in
theorem lw_s12 {p : Program} {l : Launch} {e : Env} {s : State} {m : MethodId} {below : List Frame} {meth : Method} {c : Code} {H : Heap} {locs : List Loc} {cells slots : Nat} {Q : State → Prop} {ls : Array Slot} {D : va_G} {k : Nat → ClassId} {A : Nat → Prop} {b L i : Nat} {xs : Nat → Int32} {gQ gM gX gB gT gK gL gU gP gR gA : Nat → Nat} {go : Nat → Nat → Nat} {A0 : AS} {st : Nat} (Z : Lx p s m meth c D k A b L xs) (hlt : l.stackTraces = false) (N : Nat) (hN : 100001 ≤ N) (hI : LInv D k A s gQ gM gX gB gT gK gL gU gP gR gA go A0 st H locs) (hst : st + 6 < 2 ^ 30) (hl : lv_has ls 7 [(0, .ref b), (1, .ref (gX 0)), (2, .ref (gM 0)), (3, .ref (gQ 0)), (4, .int (nI i))]) (hi : i + 6 ≤ L) (hc : cells + 24 ≤ 601024) (hs : slots + 163 ≤ 7293034)
    (kk : ∀ (A1 : AS) (st1 : Nat) (H : Heap) (locs : List Loc) (ls : Array Slot) (cells1 slots1 : Nat), LInv D k A s gQ gM gX gB gT gK gL gU gP gR gA go A1 st1 H locs → st1 ≤ st + 6 → cells1 ≤ cells + 24 → slots1 ≤ slots + 163 → lv_has ls 7 [(0, .ref b), (1, .ref (gX 0)), (2, .ref (gM 0)), (3, .ref (gQ 0)), (4, .int (nI i))] → W p l e room_1 s m #[Value.ref b] below meth c H locs cells1 slots1 Q (F0 m 1028 ls [])) : W p l e room_1 s m #[Value.ref b] below meth c H locs cells slots Q (F0 m 880 ls []) := by
  obtain ⟨ο, ρ, μ, θ, β, τ, κ, υ, π, βk, α, ω, el, tl, hok, hcl, hmo, hSt, hα, hT, hP, hD, hS⟩ := hI
  have hR := hok.hR
  by_cases hg : rg 0 (AR A0) (xs (i + 1))
  · obtain ⟨r, -, hr, hx9⟩ := hg
    rcases hT with ⟨h0, -, -⟩ | ⟨gE, ε, fE, nE, rs, t1, t2, t3, t4, t5, t6, t7⟩
    · exact absurd hr (by omega)
    · subst t1
      have pm := (t6.trans (List.Perm.append_left _ (rcs_out k rs hr))).append_left (wAL k gA α (gE 0))
      have hP1 := vP_perm (wLaw_perm pm) hP
      have hD1 := vD_perm (wLaw_perm pm) hD
      have hno : fE (Int32.toNatClampNeg (xs (i + 1))) = some ((rs r).1.1 0) := by rw [hx9, nI_clamp (by omega)]; exact t5 r hr
      have hne : vp_in (xs (i + 1)) nE := by rw [hx9]; exact vp_in_nI (by omega) (by omega)
      refine lw_case12 (gE := gE) (gC := (rs r).1.1) (gB2 := (rs r).1.2.1) (gT2 := (rs r).1.2.2.1) (go2 := (rs r).1.2.2.2) (fE := fE) (nE := nE) (rr := r) (ε := ε) (χ := (rs r).2.2.1) (β2 := (rs r).2.2.2) (τ2 := (rs r).2.1.1) (ω2 := (rs r).2.1.2) (tl := rcs k rs ((List.range (AR A0)).erase r)) Z hlt N hN hok hcl hmo hα hr (t7 r hr) hx9 hno hne hP1 hD1 hS hl hi (by omega) (by omega) (fun ο2 μ2 H locs ls a1 a2 a3 hP hD hS hl => ?_)
      have e9 : (rRec A0 (xs (i + 1)) (xs (i + 2))).2.1 = A0 := st_Rec _ _ _
      have hT2 : TlR D k (rRec A0 (xs (i + 1)) (xs (i + 2))).2.1 (gE 0) (wEl k gE ε fE nE ++ (wRc k (rs r) ++ rcs k rs ((List.range (AR A0)).erase r))) := by
        rw [e9]; exact TlR.put hr rfl t3 t4 t5 (rs r) rfl (t7 r hr) (fun q hq _ => t7 q hq)
      exact kk (rRec A0 (xs (i + 1)) (xs (i + 2))).2.1 st H locs ls _ _ ⟨ο2, ρ, μ2, θ, β, τ, κ, υ, π, βk, α, ω, gE 0, (wEl k gE ε fE nE ++ (wRc k (rs r) ++ rcs k rs ((List.range (AR A0)).erase r))), a1, a2, a3, hSt, by rw [e9]; exact hα, hT2, hP, hD, hS⟩ (by omega) (by omega) (by omega) hl
  · have e9 : (rRec A0 (xs (i + 1)) (xs (i + 2))).2.1 = A0 := st_Rec _ _ _
    exact lw_case12N Z hlt N hN hok hcl hmo hα hg hP hD hS hl hi (by omega) (by omega) (fun ο2 μ2 H locs ls a1 a2 a3 hP hD hS hl => kk (rRec A0 (xs (i + 1)) (xs (i + 2))).2.1 st H locs ls _ _ ⟨ο2, ρ, μ2, θ, β, τ, κ, υ, π, βk, α, ω, el, tl, a1, a2, a3, hSt, by rw [e9]; exact hα, by rw [e9]; exact hT, hP, hD, hS⟩ (by omega) (by omega) (by omega) hl)
set_option maxHeartbeats 2000000 in
theorem lw_s13 {p : Program} {l : Launch} {e : Env} {s : State} {m : MethodId} {below : List Frame} {meth : Method} {c : Code} {H : Heap} {locs : List Loc} {cells slots : Nat} {Q : State → Prop} {ls : Array Slot} {D : va_G} {k : Nat → ClassId} {A : Nat → Prop} {b L i : Nat} {xs : Nat → Int32} {gQ gM gX gB gT gK gL gU gP gR gA : Nat → Nat} {go : Nat → Nat → Nat} {A0 : AS} {st : Nat} (Z : Lx p s m meth c D k A b L xs) (hlt : l.stackTraces = false) (N : Nat) (hN : 100001 ≤ N) (hI : LInv D k A s gQ gM gX gB gT gK gL gU gP gR gA go A0 st H locs) (hst : st + 6 < 2 ^ 30) (hl : lv_has ls 7 [(0, .ref b), (1, .ref (gX 0)), (2, .ref (gM 0)), (3, .ref (gQ 0)), (4, .int (nI i))]) (hi : i + 6 ≤ L) (hc : cells + 24 ≤ 601024) (hs : slots + 163 ≤ 7293034)
    (kk : ∀ (A1 : AS) (st1 : Nat) (H : Heap) (locs : List Loc) (ls : Array Slot) (cells1 slots1 : Nat), LInv D k A s gQ gM gX gB gT gK gL gU gP gR gA go A1 st1 H locs → st1 ≤ st + 6 → cells1 ≤ cells + 24 → slots1 ≤ slots + 163 → lv_has ls 7 [(0, .ref b), (1, .ref (gX 0)), (2, .ref (gM 0)), (3, .ref (gQ 0)), (4, .int (nI i))] → W p l e room_1 s m #[Value.ref b] below meth c H locs cells1 slots1 Q (F0 m 1028 ls [])) : W p l e room_1 s m #[Value.ref b] below meth c H locs cells slots Q (F0 m 948 ls []) := by
  obtain ⟨ο, ρ, μ, θ, β, τ, κ, υ, π, βk, α, ω, el, tl, hok, hcl, hmo, hSt, hα, hT, hP, hD, hS⟩ := hI
  have hR := hok.hR
  by_cases hg : rg 0 (AR A0) (xs (i + 1))
  · obtain ⟨r, -, hr, hx9⟩ := hg
    rcases hT with ⟨h0, -, -⟩ | ⟨gE, ε, fE, nE, rs, t1, t2, t3, t4, t5, t6, t7⟩
    · exact absurd hr (by omega)
    · subst t1
      have pm := (t6.trans (List.Perm.append_left _ (rcs_out k rs hr))).append_left (wAL k gA α (gE 0))
      have hP1 := vP_perm (wLaw_perm pm) hP
      have hD1 := vD_perm (wLaw_perm pm) hD
      have hno : fE (Int32.toNatClampNeg (xs (i + 1))) = some ((rs r).1.1 0) := by rw [hx9, nI_clamp (by omega)]; exact t5 r hr
      have hne : vp_in (xs (i + 1)) nE := by rw [hx9]; exact vp_in_nI (by omega) (by omega)
      refine lw_case13 (gE := gE) (gC := (rs r).1.1) (gB2 := (rs r).1.2.1) (gT2 := (rs r).1.2.2.1) (go2 := (rs r).1.2.2.2) (fE := fE) (nE := nE) (rr := r) (ε := ε) (χ := (rs r).2.2.1) (β2 := (rs r).2.2.2) (τ2 := (rs r).2.1.1) (ω2 := (rs r).2.1.2) (tl := rcs k rs ((List.range (AR A0)).erase r)) Z hlt N hN hok hcl hmo hα hr (t7 r hr) hx9 hno hne hP1 hD1 hS hl hi (by omega) (by omega) (fun ο2 μ2 H locs ls a1 a2 a3 hP hD hS hl => ?_)
      have e9 : (rLin A0 (xs (i + 1)) (xs (i + 2)) (xs (i + 3))).2.1 = A0 := st_Lin _ _ _ _
      have hT2 : TlR D k (rLin A0 (xs (i + 1)) (xs (i + 2)) (xs (i + 3))).2.1 (gE 0) (wEl k gE ε fE nE ++ (wRc k (rs r) ++ rcs k rs ((List.range (AR A0)).erase r))) := by
        rw [e9]; exact TlR.put hr rfl t3 t4 t5 (rs r) rfl (t7 r hr) (fun q hq _ => t7 q hq)
      exact kk (rLin A0 (xs (i + 1)) (xs (i + 2)) (xs (i + 3))).2.1 st H locs ls _ _ ⟨ο2, ρ, μ2, θ, β, τ, κ, υ, π, βk, α, ω, gE 0, (wEl k gE ε fE nE ++ (wRc k (rs r) ++ rcs k rs ((List.range (AR A0)).erase r))), a1, a2, a3, hSt, by rw [e9]; exact hα, hT2, hP, hD, hS⟩ (by omega) (by omega) (by omega) hl
  · have e9 : (rLin A0 (xs (i + 1)) (xs (i + 2)) (xs (i + 3))).2.1 = A0 := st_Lin _ _ _ _
    exact lw_case13N Z hlt N hN hok hcl hmo hα hg hP hD hS hl hi (by omega) (by omega) (fun ο2 μ2 H locs ls a1 a2 a3 hP hD hS hl => kk (rLin A0 (xs (i + 1)) (xs (i + 2)) (xs (i + 3))).2.1 st H locs ls _ _ ⟨ο2, ρ, μ2, θ, β, τ, κ, υ, π, βk, α, ω, el, tl, a1, a2, a3, hSt, by rw [e9]; exact hα, by rw [e9]; exact hT, hP, hD, hS⟩ (by omega) (by omega) (by omega) hl)
set_option maxHeartbeats 2000000 in
theorem lw_s11 {p : Program} {l : Launch} {e : Env} {s : State} {m : MethodId} {below : List Frame} {meth : Method} {c : Code} {H : Heap} {locs : List Loc} {cells slots : Nat} {Q : State → Prop} {ls : Array Slot} {D : va_G} {k : Nat → ClassId} {A : Nat → Prop} {b L i : Nat} {xs : Nat → Int32} {gQ gM gX gB gT gK gL gU gP gR gA : Nat → Nat} {go : Nat → Nat → Nat} {A0 : AS} {st : Nat} (Z : Lx p s m meth c D k A b L xs) (hlt : l.stackTraces = false) (N : Nat) (hN : 100001 ≤ N) (hI : LInv D k A s gQ gM gX gB gT gK gL gU gP gR gA go A0 st H locs) (hst : st + 6 < 2 ^ 30) (hl : lv_has ls 7 [(0, .ref b), (1, .ref (gX 0)), (2, .ref (gM 0)), (3, .ref (gQ 0)), (4, .int (nI i))]) (hi : i + 6 ≤ L) (hc : cells + 24 ≤ 601024) (hs : slots + 163 ≤ 7293034)
    (kk : ∀ (A1 : AS) (st1 : Nat) (H : Heap) (locs : List Loc) (ls : Array Slot) (cells1 slots1 : Nat), LInv D k A s gQ gM gX gB gT gK gL gU gP gR gA go A1 st1 H locs → st1 ≤ st + 6 → cells1 ≤ cells + 24 → slots1 ≤ slots + 163 → lv_has ls 7 [(0, .ref b), (1, .ref (gX 0)), (2, .ref (gM 0)), (3, .ref (gQ 0)), (4, .int (nI i))] → W p l e room_1 s m #[Value.ref b] below meth c H locs cells1 slots1 Q (F0 m 1028 ls [])) : W p l e room_1 s m #[Value.ref b] below meth c H locs cells slots Q (F0 m 812 ls []) := by
  obtain ⟨ο, ρ, μ, θ, β, τ, κ, υ, π, βk, α, ω, el, tl, hok, hcl, hmo, hSt, hα, hT, hP, hD, hS⟩ := hI
  have hR := hok.hR
  by_cases hg : rg 0 (AR A0) (xs (i + 1))
  · obtain ⟨r, -, hr, hx9⟩ := hg
    rcases hT with ⟨h0, -, -⟩ | ⟨gE, ε, fE, nE, rs, t1, t2, t3, t4, t5, t6, t7⟩
    · exact absurd hr (by omega)
    · subst t1
      have pm := (t6.trans (List.Perm.append_left _ (rcs_out k rs hr))).append_left (wAL k gA α (gE 0))
      have hP1 := vP_perm (wLaw_perm pm) hP
      have hD1 := vD_perm (wLaw_perm pm) hD
      have hno : fE (Int32.toNatClampNeg (xs (i + 1))) = some ((rs r).1.1 0) := by rw [hx9, nI_clamp (by omega)]; exact t5 r hr
      have hne : vp_in (xs (i + 1)) nE := by rw [hx9]; exact vp_in_nI (by omega) (by omega)
      refine lw_case11 (gE := gE) (gC := (rs r).1.1) (gB2 := (rs r).1.2.1) (gT2 := (rs r).1.2.2.1) (go2 := (rs r).1.2.2.2) (fE := fE) (nE := nE) (rr := r) (ε := ε) (χ := (rs r).2.2.1) (β2 := (rs r).2.2.2) (τ2 := (rs r).2.1.1) (ω2 := (rs r).2.1.2) (tl := rcs k rs ((List.range (AR A0)).erase r)) Z hlt N hN hok hcl hmo hα hr (t7 r hr) hx9 hno hne hSt hst hP1 hD1 hS hl hi (by omega) (by omega) (fun θ2 κ2 υ2 ο2 χ2 βk2 μ2 H locs ls a1 a2 a3 st2 b1 b2 hrc hgv hP hD hS hl => ?_)
      have eA : AR (rGiv A0 (xs (i + 1)) (xs (i + 2))).2.1 = AR A0 := by
        rcases hgv with e9 | ⟨j, e9⟩
        · rw [e9]
        · rw [e9]; rfl
      have hT2 : TlR D k (rGiv A0 (xs (i + 1)) (xs (i + 2))).2.1 (gE 0) (wEl k gE ε fE nE ++ (wRc k ((rs r).1, (rs r).2.1, (χ2, (rs r).2.2.2)) ++ rcs k rs ((List.range (AR A0)).erase r))) := by
        refine TlR.put hr eA t3 t4 t5 ((rs r).1, (rs r).2.1, (χ2, (rs r).2.2.2)) rfl hrc (fun q hq hqr => ?_)
        rcases hgv with e9 | ⟨j, e9⟩
        · rw [e9]; exact t7 q hq
        · rw [e9]; exact rcS_giv_old (t7 q hq) hqr
      exact kk (rGiv A0 (xs (i + 1)) (xs (i + 2))).2.1 st2 H locs ls _ _ ⟨ο2, ρ, μ2, θ2, β, τ, κ2, υ2, π, βk2, α, ω, gE 0, (wEl k gE ε fE nE ++ (wRc k ((rs r).1, (rs r).2.1, (χ2, (rs r).2.2.2)) ++ rcs k rs ((List.range (AR A0)).erase r))), a1, a2, a3, b2, by rw [eA]; exact hα, hT2, hP, hD, hS⟩ (by omega) (by omega) (by omega) hl
  · have e9 : (rGiv A0 (xs (i + 1)) (xs (i + 2))).2.1 = A0 := st_GivN hg
    exact lw_case11N Z hlt N hN hok hcl hmo hα hg hP hD hS hl hi (by omega) (by omega) (fun ο2 μ2 H locs ls a1 a2 a3 hP hD hS hl => kk (rGiv A0 (xs (i + 1)) (xs (i + 2))).2.1 st H locs ls _ _ ⟨ο2, ρ, μ2, θ, β, τ, κ, υ, π, βk, α, ω, el, tl, a1, a2, a3, hSt, by rw [e9]; exact hα, by rw [e9]; exact hT, hP, hD, hS⟩ (by omega) (by omega) (by omega) hl)
set_option maxHeartbeats 2000000 in
theorem lw_s10 {p : Program} {l : Launch} {e : Env} {s : State} {m : MethodId} {below : List Frame} {meth : Method} {c : Code} {H : Heap} {locs : List Loc} {cells slots : Nat} {Q : State → Prop} {ls : Array Slot} {D : va_G} {k : Nat → ClassId} {A : Nat → Prop} {b L i : Nat} {xs : Nat → Int32} {gQ gM gX gB gT gK gL gU gP gR gA : Nat → Nat} {go : Nat → Nat → Nat} {A0 : AS} {st : Nat} (Z : Lx p s m meth c D k A b L xs) (hlt : l.stackTraces = false) (N : Nat) (hN : 100001 ≤ N) (hI : LInv D k A s gQ gM gX gB gT gK gL gU gP gR gA go A0 st H locs) (hst : st + 6 < 2 ^ 30) (hl : lv_has ls 7 [(0, .ref b), (1, .ref (gX 0)), (2, .ref (gM 0)), (3, .ref (gQ 0)), (4, .int (nI i))]) (hi : i + 6 ≤ L) (hc : cells + 24 ≤ 601024) (hs : slots + 163 ≤ 7293034)
    (kk : ∀ (A1 : AS) (st1 : Nat) (H : Heap) (locs : List Loc) (ls : Array Slot) (cells1 slots1 : Nat), LInv D k A s gQ gM gX gB gT gK gL gU gP gR gA go A1 st1 H locs → st1 ≤ st + 6 → cells1 ≤ cells + 24 → slots1 ≤ slots + 163 → lv_has ls 7 [(0, .ref b), (1, .ref (gX 0)), (2, .ref (gM 0)), (3, .ref (gQ 0)), (4, .int (nI i))] → W p l e room_1 s m #[Value.ref b] below meth c H locs cells1 slots1 Q (F0 m 1028 ls [])) : W p l e room_1 s m #[Value.ref b] below meth c H locs cells slots Q (F0 m 756 ls []) := by
  obtain ⟨ο, ρ, μ, θ, β, τ, κ, υ, π, βk, α, ω, el, tl, hok, hcl, hmo, hSt, hα, hT, hP, hD, hS⟩ := hI
  have hR := hok.hR
  have hfill : wp_J_fill12 N (fun _ => (fun _ => 0)) 100 (fun _ => True) := pf_fill12 N (by omega) _ _ _ (fun _ _ => trivial)
  have hcp : ∀ j, j < 6 → ∀ ω2, wp_Offer_copyTo N (ω j) ω2 (cpO (ω j)) := fun j hj ω2 => pf_copyTo N (hcl.2.2.2.1 j hj) ω2
  rcases hT with ⟨h0, t1, t2⟩ | ⟨gE, ε, fE, nE, rs, t1, t2, t3, t4, t5, t6, t7⟩
  · subst t1
    subst t2
    have hα0 : α 2 0 = 0 := by rw [hα, h0]; rfl
    refine lw_case10 (rm := rm_Till_finishV0) (wz := wAL k gA α (D.1 10)) (tz := []) (wNw := wNwV0 D k gA α) Z N hN hok hmo (m_Till_finishV0 hlt N gX gB gT go gL gU gP gR gA (gK 0) θ β τ ω κ υ π ρ α _ hα0 hfill hcp (fnP A0 τ ω st _) (fnX A0 β τ ω st _) (clR_finV0 κ υ ρ hok hcl hα N hN hSt hst _ _ _ (fun E a1 a2 θ2 κ2 υ2 π2 ρ2 st2 b1 b2 b3 => ⟨a1, a2, ⟨st2, b1, b2⟩, b3, rfl, rfl⟩) (fun a1 a2 a3 a4 θ2 β2 κ2 υ2 π2 ρ2 st2 w b1 b2 b3 b4 => ⟨a1, rfl, a2, a3, a4, ⟨st2, b1, b2⟩, b3, w, rfl, b4⟩))) ⟨by decide, by decide⟩ hP hD hS hl hi (by show cells + 23 ≤ 601024; omega) (by show slots + 145 ≤ 7293034; omega) (fun θ2 β2 κ2 υ2 π2 ρ2 ο2 μ2 w2 H locs ls a1 a2 a3 st2 b1 b2 hq hP hD hS hl => ?_)
    rcases hq with ⟨hw, e9⟩ | ⟨w, hw, e9, h12, hrc⟩
    · subst hw
      exact kk _ st2 H locs ls _ _ ⟨ο2, ρ2, μ2, θ2, β2, τ, κ2, υ2, π2, βk, α, ω, D.1 10, [], a1, a2, a3, b2, by rw [e9]; exact hα, Or.inl ⟨by rw [e9]; exact h0, rfl, rfl⟩, hP, hD, hS⟩ b1 (by show cells + 23 + 0 + 0 ≤ _; omega) (by show slots + 145 + 0 + 0 ≤ _; omega) hl
    · subst hw
      have hT2 : TlR D k (rFin A0 (xs (i + 1))).2.1 w.2 (wEl k (adr [w.2]) z0 (va_up (fun _ => none) (Int32.toNatClampNeg 0) (some (w.1.1.1 0))) 10 ++ (wRc k w.1 ++ [])) := by
        rw [e9]
        refine TlR.add (gE := adr [w.2]) (ε := z0) (fE := va_up (fun _ => none) (Int32.toNatClampNeg 0) (some (w.1.1.1 0))) (nE := 10) (rs := fun _ => w.1) w.1 (by omega) (Or.inl rfl) (fun r hr => absurd hr (by omega)) (by rw [h0]; rfl) hrc (fun q hq => absurd hq (by omega)) ?_
        rw [h0]
        exact List.Perm.refl _
      exact kk _ st2 H locs ls _ _ ⟨ο2, ρ2, μ2, θ2, β2, τ, κ2, υ2, π2, βk, alV α 1, ω, w.2, _, a1, a2, a3, b2, by rw [e9]; show (1 : Int32) = nI (AR A0 + 1); rw [h0]; rfl, hT2, hP, hD, hS⟩ b1 (by show cells + 23 + 0 + 0 ≤ _; omega) (by show slots + 145 + 0 + 0 ≤ _; omega) hl
  · subst t1
    have pm := t6.append_left (wAL k gA α (gE 0))
    have hP1 := vP_perm (wLaw_perm pm) hP
    have hD1 := vD_perm (wLaw_perm pm) hD
    have hcN : Int32.toNatClampNeg (α 2 0) = AR A0 := by rw [hα]; exact nI_clamp (by omega)
    by_cases hlt9 : AR A0 < nE
    · have hin : vp_in (α 2 0) nE := by rw [hα]; exact vp_in_nI hlt9 (by omega)
      have hne : α 2 0 ≠ Int32.ofNat nE := by
        rw [hα]
        intro h
        have := (eqL (n := AR A0) (m := nE) (by omega) (by omega)).mp h
        omega
      refine lw_case10 (rm := rm_Till_finishV1) (wz := wAL k gA α (gE 0) ++ wEl k gE ε fE nE) (tz := rcs k rs (List.range (AR A0))) (wNw := wNwV1 k gA α gE ε fE nE) Z N hN hok hmo (m_Till_finishV1 hlt N gX gB gT go gL gU gP gR gA gE (gK 0) fE nE θ β τ ω κ υ π ρ α ε _ hin hne hfill hcp (fnP A0 τ ω st _) (fnX A0 β τ ω st _) (clR_finV1 ε κ υ ρ hok hcl hα N hN hSt hst _ _ _ (fun E a1 a2 θ2 κ2 υ2 π2 ρ2 st2 b1 b2 b3 => ⟨a1, a2, ⟨st2, b1, b2⟩, b3, rfl, rfl⟩) (fun a1 a2 a3 a4 θ2 β2 κ2 υ2 π2 ρ2 st2 w b1 b2 b3 b4 => ⟨a1, rfl, a2, a3, a4, ⟨st2, b1, b2⟩, b3, w, rfl, b4⟩))) ⟨by decide, by decide⟩ hP1 hD1 hS hl hi (by show cells + 22 ≤ 601024; omega) (by show slots + 135 ≤ 7293034; omega) (fun θ2 β2 κ2 υ2 π2 ρ2 ο2 μ2 w2 H locs ls a1 a2 a3 st2 b1 b2 hq hP hD hS hl => ?_)
      rcases hq with ⟨hw, e9⟩ | ⟨w, hw, e9, h12, hrc⟩
      · subst hw
        have hT2 : TlR D k (rFin A0 (xs (i + 1))).2.1 (gE 0) (wEl k gE ε fE nE ++ rcs k rs (List.range (AR A0))) := by
          rw [e9]; exact Or.inr ⟨gE, ε, fE, nE, rs, rfl, t2, t3, t4, t5, List.Perm.refl _, t7⟩
        exact kk _ st2 H locs ls _ _ ⟨ο2, ρ2, μ2, θ2, β2, τ, κ2, υ2, π2, βk, α, ω, gE 0, _, a1, a2, a3, b2, by rw [e9]; exact hα, hT2, hP, hD, hS⟩ b1 (by show cells + 22 + 0 + 0 ≤ _; omega) (by show slots + 135 + 0 + 0 ≤ _; omega) hl
      · subst hw
        have hT2 : TlR D k (rFin A0 (xs (i + 1))).2.1 (gE 0) (wEl k gE ε (va_up fE (Int32.toNatClampNeg (α 2 0)) (some (w.1.1.1 0))) nE ++ (wRc k w.1 ++ rcs k rs (List.range (AR A0)))) := by
          rw [e9]
          exact TlR.add (rs := rs) w.1 hlt9 t4 (fun r hr => by rw [hcN, va_up_ne _ _ (by omega)]; exact t5 r hr) (by rw [hcN, va_up_self]) hrc t7 (List.Perm.refl _)
        exact kk _ st2 H locs ls _ _ ⟨ο2, ρ2, μ2, θ2, β2, τ, κ2, υ2, π2, βk, alV α (α 2 0 + 1), ω, gE 0, _, a1, a2, a3, b2, by rw [e9]; show α 2 0 + 1 = nI (AR A0 + 1); rw [hα]; exact nI_add (AR A0) 1, hT2, hP, hD, hS⟩ b1 (by show cells + 22 + 0 + 0 ≤ _; omega) (by show slots + 135 + 0 + 0 ≤ _; omega) hl
    · have h10 : AR A0 = 10 := by omega
      have hn : nE = 10 := by omega
      subst hn
      rw [h10] at hP1 hD1
      have hα0 : α 2 0 = 10 := by rw [hα, h10]; rfl
      rw [wLaw_app] at hP1 hD1
      have hP2 := wEl_congr (a := (wLaw k gQ gM gX gB gT gK gL gU gP gR gA go ο ρ μ θ β τ κ υ π βk ω []) ++ wAL k gA α (gE 0)) (g := fun i => some (rcY rs i)) (fun j hj => t5 j (by omega)) (hP1.re (List.append_assoc _ _ _).symm)
      have hD2 := wEl_congrD (a := (wLaw k gQ gM gX gB gT gK gL gU gP gR gA go ο ρ μ θ β τ κ υ π βk ω []) ++ wAL k gA α (gE 0)) (g := fun i => some (rcY rs i)) (hD1.re (List.append_assoc _ _ _).symm)
      replace hP2 := (hP2.re (List.append_assoc _ _ _)).re (wLaw_app _).symm
      replace hD2 := (hD2.re (List.append_assoc _ _ _)).re (wLaw_app _).symm
      have pm2 := ((rcs_ten k rs).append_left (wEl k gE ε (fun i => some (rcY rs i)) 10)).append_left (wAL k gA α (gE 0))
      have hP3 := vP_perm (wLaw_perm pm2) hP2
      have hD3 := vD_perm (wLaw_perm pm2) hD2
      refine lw_case10 (rm := rm_Till_finishV2) (wz := wAL k gA α (gE 0) ++ (wEl k gE ε (fun i => some (rcY rs i)) 10 ++ wTen (rcY rs) (rcV rs))) (tz := rct k rs (List.range 10)) (wNw := wNwV2 k gA α gE ε (rcY rs) (rcV rs)) Z N hN hok hmo (m_Till_finishV2 hlt N gX gB gT go gL gU gP gR gA gE (gK 0) (rcY rs) (rcV rs) θ β τ ω κ υ π ρ α ε _ hα0 hfill hcp (fnP A0 τ ω st _) (fnX A0 β τ ω st _) (clR_finV2 ε κ υ ρ hok hcl hα N hN hSt hst _ _ _ (fun E a1 a2 θ2 κ2 υ2 π2 ρ2 st2 b1 b2 b3 => ⟨a1, a2, ⟨st2, b1, b2⟩, b3, rfl, rfl⟩) (fun a1 a2 a3 a4 θ2 β2 κ2 υ2 π2 ρ2 st2 w b1 b2 b3 b4 => ⟨a1, rfl, a2, a3, a4, ⟨st2, b1, b2⟩, b3, w, rfl, b4⟩))) ⟨by decide, by decide⟩ hP3 hD3 hS hl hi (by show cells + 23 ≤ 601024; omega) (by show slots + 150 ≤ 7293034; omega) (fun θ2 β2 κ2 υ2 π2 ρ2 ο2 μ2 w2 H locs ls a1 a2 a3 st2 b1 b2 hq hP hD hS hl => ?_)
      rcases hq with ⟨hw, e9⟩ | ⟨w, hw, e9, h12, hrc⟩
      · subst hw
        have hT2 : TlR D k (rFin A0 (xs (i + 1))).2.1 (gE 0) (wEl k gE ε (fun i => some (rcY rs i)) 10 ++ (wTen (rcY rs) (rcV rs) ++ rct k rs (List.range 10))) := by
          rw [e9]; exact Or.inr ⟨gE, ε, fun i => some (rcY rs i), 10, rs, rfl, t2, t3, t4, fun r hr => rfl, by rw [h10]; exact (rcs_ten k rs).symm.append_left _, t7⟩
        exact kk _ st2 H locs ls _ _ ⟨ο2, ρ2, μ2, θ2, β2, τ, κ2, υ2, π2, βk, α, ω, gE 0, _, a1, a2, a3, b2, by rw [e9]; exact hα, hT2, hP, hD, hS⟩ b1 (by show cells + 23 + 0 + 0 ≤ _; omega) (by show slots + 150 + 0 + 0 ≤ _; omega) hl
      · subst hw
        have hT2 : TlR D k (rFin A0 (xs (i + 1))).2.1 w.2 (wEl k (adr [w.2]) z0 (va_up (va_cpy (fun i => some (rcY rs i)) (fun _ => none) 0 0 10) (Int32.toNatClampNeg 10) (some (w.1.1.1 0))) 15 ++ (wTen (rcY rs) (rcV rs) ++ (wRc k w.1 ++ rct k rs (List.range 10)))) := by
          rw [e9]
          have h1010 : Int32.toNatClampNeg 10 = 10 := by decide
          refine TlR.add (gE := adr [w.2]) (ε := z0) (fE := va_up (va_cpy (fun i => some (rcY rs i)) (fun _ => none) 0 0 10) (Int32.toNatClampNeg 10) (some (w.1.1.1 0))) (nE := 15) (rs := rs) w.1 (by omega) (Or.inr rfl) (fun r hr => ?_) ?_ hrc t7 (List.Perm.append_left _ ?_)
          · rw [h1010, va_up_ne _ _ (by omega)]
            unfold va_cpy
            rw [if_pos ⟨by omega, by omega⟩, Nat.zero_add, Nat.sub_zero]
            rfl
          · rw [h1010, h10, va_up_self]
          · rw [h10]
            exact (List.perm_append_comm_assoc _ _ _).trans ((rcs_ten k rs).symm.append_left _)
        exact kk _ st2 H locs ls _ _ ⟨ο2, ρ2, μ2, θ2, β2, τ, κ2, υ2, π2, βk, alV α 11, ω, w.2, _, a1, a2, a3, b2, by rw [e9]; show (11 : Int32) = nI (AR A0 + 1); rw [h10]; rfl, hT2, hP, hD, hS⟩ b1 (by show cells + 23 + 0 + 0 ≤ _; omega) (by show slots + 150 + 0 + 0 ≤ _; omega) hl
