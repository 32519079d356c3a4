/-! all receipts' cells -/
abbrev RUt : Type := ((Nat → Nat) × (Nat → Nat) × (Nat → Nat) × (Nat → Nat → Nat)) × (St × (Nat → St)) × (St × St)
def rcs (k : Nat → ClassId) (rs : Nat → RUt) (l : List Nat) : va_W := l.flatMap (fun r => wRc k (rs r))
theorem rcs_out (k : Nat → ClassId) (rs : Nat → RUt) {n r : Nat} (h : r < n) : (rcs k rs (List.range n)).Perm (wRc k (rs r) ++ rcs k rs ((List.range n).erase r)) := by
  have h1 := List.perm_cons_erase (List.mem_range.mpr h)
  have h2 := List.Perm.flatMap_right (fun r => wRc k (rs r)) h1
  rw [List.flatMap_cons] at h2
  exact h2
theorem rcs_succ (k : Nat → ClassId) (rs : Nat → RUt) (n : Nat) : rcs k rs (List.range (n + 1)) = rcs k rs (List.range n) ++ wRc k (rs n) := by
  unfold rcs
  rw [List.range_succ, List.flatMap_append, List.flatMap_cons, List.flatMap_nil, List.append_nil]
theorem rcs_congr (k : Nat → ClassId) {rs rs2 : Nat → RUt} {l : List Nat} (h : ∀ r ∈ l, rs2 r = rs r) : rcs k rs2 l = rcs k rs l := by
  induction l with
  | nil => rfl
  | cons a l ih =>
    unfold rcs at ih ⊢
    rw [List.flatMap_cons, List.flatMap_cons, ih (fun r hr => h r (List.mem_cons_of_mem _ hr)), h a List.mem_cons_self]
