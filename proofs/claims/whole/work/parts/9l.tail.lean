/-! the receipts behind the till: what stands behind the list -/
def TlR (D : va_G) (k : Nat → ClassId) (A : AS) (el : Nat) (tl : va_W) : Prop :=
  (AR A = 0 ∧ el = D.1 10 ∧ tl = []) ∨ ∃ (gE : Nat → Nat) (ε : St) (fE : Nat → Option Nat) (nE : Nat) (rs : Nat → RUt), el = gE 0 ∧ 0 < AR A ∧ AR A ≤ nE ∧ (nE = 10 ∨ nE = 15) ∧ (∀ r, r < AR A → fE r = some ((rs r).1.1 0)) ∧ tl.Perm (wEl k gE ε fE nE ++ rcs k rs (List.range (AR A))) ∧ ∀ r, r < AR A → rcS A r (rs r).2.2.1 (rs r).2.2.2 (rs r).2.1.1 (rs r).2.1.2
theorem AR_same {A B : AS} (h : rcp B = rcp A) : AR B = AR A := congrArg (fun z => z.1) h
theorem TlR.same {D : va_G} {k : Nat → ClassId} {A B : AS} {el : Nat} {tl : va_W} (h : rcp B = rcp A) (hT : TlR D k A el tl) : TlR D k B el tl := by
  have e := AR_same h
  rcases hT with ⟨h1, h2, h3⟩ | ⟨gE, ε, fE, nE, rs, h1, h2, h3, h4, h5, h6, h7⟩
  · exact Or.inl ⟨by rw [e]; exact h1, h2, h3⟩
  · refine Or.inr ⟨gE, ε, fE, nE, rs, h1, by rw [e]; exact h2, by rw [e]; exact h3, h4, by rw [e]; exact h5, by rw [e]; exact h6, fun r hr => rcS_same h (h7 r (by rw [e] at hr; exact hr))⟩
def rsu (rs : Nat → RUt) (n : Nat) (u : RUt) : Nat → RUt := fun q => if q = n then u else rs q
theorem rsu_self (rs : Nat → RUt) (n : Nat) (u : RUt) : rsu rs n u n = u := if_pos rfl
theorem rsu_ne (rs : Nat → RUt) {n q : Nat} (u : RUt) (h : q ≠ n) : rsu rs n u q = rs q := if_neg h
theorem rcs_put (k : Nat → ClassId) (rs : Nat → RUt) {n r : Nat} (h : r < n) (u : RUt) : (wRc k u ++ rcs k rs ((List.range n).erase r)).Perm (rcs k (rsu rs r u) (List.range n)) := by
  have h1 := (rcs_out k (rsu rs r u) h).symm
  rw [rsu_self, rcs_congr k (rs := rs) (rs2 := rsu rs r u) (fun q hq => rsu_ne rs u ((List.Nodup.mem_erase_iff List.nodup_range).mp hq).1)] at h1
  exact h1
theorem rcs_add (k : Nat → ClassId) (rs : Nat → RUt) (n : Nat) (u : RUt) : (wRc k u ++ rcs k rs (List.range n)).Perm (rcs k (rsu rs n u) (List.range (n + 1))) := by
  rw [rcs_succ, rsu_self, rcs_congr k (rs := rs) (rs2 := rsu rs n u) (fun q hq => rsu_ne rs u (by have := List.mem_range.mp hq; omega))]
  exact List.perm_append_comm
/-- a receipt is put back among the others -/
theorem TlR.put {D : va_G} {k : Nat → ClassId} {A B : AS} {gE : Nat → Nat} {ε : St} {fE : Nat → Option Nat} {nE : Nat} {rs : Nat → RUt} {r : Nat} (hr : r < AR A) (e : AR B = AR A) (h3 : AR A ≤ nE) (h4 : nE = 10 ∨ nE = 15) (h5 : ∀ r, r < AR A → fE r = some ((rs r).1.1 0)) (u : RUt) (hu : u.1 = (rs r).1) (hc : rcS B r u.2.2.1 u.2.2.2 u.2.1.1 u.2.1.2) (h7 : ∀ q, q < AR A → q ≠ r → rcS B q (rs q).2.2.1 (rs q).2.2.2 (rs q).2.1.1 (rs q).2.1.2) : TlR D k B (gE 0) (wEl k gE ε fE nE ++ (wRc k u ++ rcs k rs ((List.range (AR A)).erase r))) := by
  refine Or.inr ⟨gE, ε, fE, nE, rsu rs r u, rfl, by omega, by omega, h4, fun q hq => ?_, ?_, fun q hq => ?_⟩
  · by_cases hqr : q = r
    · subst hqr; rw [rsu_self, hu]; exact h5 _ hr
    · rw [rsu_ne rs u hqr]; exact h5 q (by omega)
  · rw [e]; exact List.Perm.append_left _ (rcs_put k rs hr u)
  · by_cases hqr : q = r
    · subst hqr; rw [rsu_self]; exact hc
    · rw [rsu_ne rs u hqr]; exact h7 q (by omega) hqr
theorem TlR.add {D : va_G} {k : Nat → ClassId} {A : AS} {gE : Nat → Nat} {ε : St} {fE : Nat → Option Nat} {nE : Nat} {rs : Nat → RUt} {tl : va_W} (u : RUt) (h3 : AR A < nE) (h4 : nE = 10 ∨ nE = 15) (h5 : ∀ r, r < AR A → fE r = some ((rs r).1.1 0)) (h6 : fE (AR A) = some (u.1.1 0)) (hc : rcS (aFin A) (AR A) u.2.2.1 u.2.2.2 u.2.1.1 u.2.1.2) (h7 : ∀ q, q < AR A → rcS A q (rs q).2.2.1 (rs q).2.2.2 (rs q).2.1.1 (rs q).2.1.2) (ht : tl.Perm (wEl k gE ε fE nE ++ (wRc k u ++ rcs k rs (List.range (AR A))))) : TlR D k (aFin A) (gE 0) tl := by
  have e : AR (aFin A) = AR A + 1 := rfl
  refine Or.inr ⟨gE, ε, fE, nE, rsu rs (AR A) u, rfl, by omega, by omega, h4, fun q hq => ?_, ?_, fun q hq => ?_⟩
  · by_cases hqr : q = AR A
    · rw [hqr, rsu_self]; exact h6
    · rw [rsu_ne rs u hqr]; exact h5 q (by omega)
  · rw [e]; exact ht.trans (List.Perm.append_left _ (rcs_add k rs (AR A) u))
  · by_cases hqr : q = AR A
    · rw [hqr, rsu_self]; exact hc
    · rw [rsu_ne rs u hqr]; exact rcS_old (h7 q (by omega)) hqr
theorem wEl_congr {D : va_G} {k : Nat → ClassId} {gE : Nat → Nat} {ε : St} {f g : Nat → Option Nat} {n : Nat} {a z : va_W} {H : Heap} (h : ∀ j, j < n → f j = g j) (hP : va_P D CL (a ++ (wEl k gE ε f n ++ z)) H) : va_P D CL (a ++ (wEl k gE ε g n ++ z)) H := by
  refine vP_iff.mpr (fun q hq => ?_)
  have hp := vP_iff.mp hP
  rcases List.mem_append.mp hq with h1 | h1
  · exact hp q (List.mem_append_left _ h1)
  · rcases List.mem_append.mp h1 with h2 | h2
    · have h3 : q = (gE 0, .inl (k 4, n, .inr (.inr (.inr (.inr g))))) := List.mem_singleton.mp h2
      subst h3
      have h4 := hp (gE 0, .inl (k 4, n, .inr (.inr (.inr (.inr f))))) (List.mem_append_right _ (List.mem_append_left _ (List.mem_singleton.mpr rfl)))
      have h5 : H[gE 0]? = some (arrV (k 4) n (fun j => va_rf (f j))) := h4
      show H[gE 0]? = some (arrV (k 4) n (fun j => va_rf (g j)))
      rw [h5, arrV_congr (f2 := fun j => va_rf (g j)) (fun j hj => by show va_rf (f j) = va_rf (g j); rw [h j hj])]
    · exact hp q (List.mem_append_right _ (List.mem_append_right _ h2))
theorem wEl_congrD {A : Nat → Prop} {k : Nat → ClassId} {gE : Nat → Nat} {ε : St} {f g : Nat → Option Nat} {n : Nat} {a z : va_W} (hD : va_D A (a ++ (wEl k gE ε f n ++ z))) : va_D A (a ++ (wEl k gE ε g n ++ z)) := by
  obtain ⟨h1, h2⟩ := vD_iff.mp hD
  have e : (a ++ (wEl k gE ε g n ++ z)).map (fun q => q.1) = (a ++ (wEl k gE ε f n ++ z)).map (fun q => q.1) := by
    rw [List.map_append, List.map_append, List.map_append, List.map_append]
    rfl
  refine vD_iff.mpr ⟨by rw [e]; exact h1, fun q hq => ?_⟩
  have : q.1 ∈ (a ++ (wEl k gE ε g n ++ z)).map (fun q => q.1) := List.mem_map.mpr ⟨q, hq, rfl⟩
  rw [e] at this
  obtain ⟨q2, hq2, e2⟩ := List.mem_map.mp this
  rw [← e2]; exact h2 q2 hq2
/-- the ten receipts' first cells -/
def rcY (rs : Nat → RUt) : Nat → Nat := fun i => (rs i).1.1 0
def rcV (rs : Nat → RUt) : Nat → List Value := fun i => [.ref ((rs i).1.2.2.1 0), .ref ((rs i).1.2.1 0), .ref ((rs i).1.1 1), .ref ((rs i).1.1 2), .ref ((rs i).1.1 3), .int ((rs i).2.2.1 5 0), .int ((rs i).2.2.1 6 0)]
def rct (k : Nat → ClassId) (rs : Nat → RUt) (l : List Nat) : va_W := l.flatMap (fun r => (wRc k (rs r)).tail)
theorem fm_perm {α β : Type} (a : α → β) (t : α → List β) (l : List α) : (l.flatMap (fun r => a r :: t r)).Perm (l.map a ++ l.flatMap t) := by
  induction l with
  | nil => exact List.Perm.refl _
  | cons x l ih =>
    rw [List.flatMap_cons, List.flatMap_cons, List.map_cons]
    refine List.Perm.cons _ ?_
    exact (ih.append_left (t x)).trans (List.perm_append_comm_assoc _ _ _)
theorem rcs_ten (k : Nat → ClassId) (rs : Nat → RUt) : (rcs k rs (List.range 10)).Perm (wTen (rcY rs) (rcV rs) ++ rct k rs (List.range 10)) :=
  fm_perm (fun r => ((rcY rs r, .inr (4, rcV rs r)) : Nat × va_E)) (fun r => (wRc k (rs r)).tail) (List.range 10)
