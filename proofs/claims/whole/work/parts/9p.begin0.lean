/-! the start: what a new till and a new reference hold -/
def O00 : Nat → Nat := fun j => if j = 1 then 2 else 0
def A00 : AS := (fun _ => O00, fun _ => 100, fun _ => 0, fun _ => 0, 0, 0, 0, fun _ _ => O00, fun _ _ => 0, fun _ _ => 0, fun _ => 0, fun _ _ => 0, fun _ _ => 0, fun _ _ => false, fun _ => 0, fun _ => 0)
theorem okO_00 : okO O00 := by
  refine ⟨by decide, by decide, by decide, by decide, by decide, by decide, fun s hs => ?_⟩
  unfold O00
  rw [if_neg (by omega)]
  omega
theorem ok_00 : okS A00 := ⟨fun _ _ => okO_00, fun _ _ => by show 100 ≤ 100000; omega, fun _ _ => by show 0 ≤ 3; omega, Nat.zero_le _, fun i hi => absurd hi (Nat.not_lt_zero i), room_0 _ _, Nat.zero_le _, fun r hr => absurd hr (Nat.not_lt_zero r)⟩
theorem cl_00 {τ : St} (h : ∀ i, i < 12 → τ 0 i = 100) : clS A00 z0 z0 (va_up z0 0 (τ 0)) (fun _ => s2 z0 1 0 2) z0 := by
  refine ⟨rfl, ⟨Nat.zero_le _, rfl, fun i hi => absurd hi (Nat.not_lt_zero i)⟩, fun a ha => ⟨?_, rfl⟩, fun i _ => ⟨?_, ?_, okO_00⟩, Or.inl rfl⟩
  · show va_up z0 0 (τ 0) 0 a = nI 100
    rw [va_up_self, h a ha]; rfl
  · intro j hj
    match j, hj with
    | 0, _ => rfl
    | 1, _ => rfl
    | 2, _ => rfl
    | 3, _ => rfl
    | 4, _ => rfl
    | n + 5, h => exact absurd h (by omega)
  · intro s hs
    match s, hs with
    | 0, _ => rfl
    | 1, _ => rfl
    | 2, _ => rfl
    | 3, _ => rfl
    | n + 4, h => exact absurd h (by omega)
abbrev μ00 : St := va_up (va_up z0 0 (upd (upd (upd (upd (upd (upd (upd (upd (upd (upd (upd (upd (fun _ => 0) 0 100) 1 100) 2 100) 3 100) 4 100) 5 100) 6 100) 7 100) 8 100) 9 100) 10 100) 11 100)) 3 (upd (upd (upd (upd (upd (upd (fun _ => 0) 72 2) 73 2) 74 2) 75 2) 76 2) 77 2)
theorem μ00_0 : ∀ a, a < 12 → μ00 0 a = 100 := by decide +kernel
theorem μ00_3 : ∀ i, i < 6 → μ00 3 (72 + i) = 2 := by decide +kernel
theorem mo_00 : moS A00 μ00 := by
  refine ⟨fun a ha => ⟨(μ00_0 a ha).trans rfl, rfl⟩, fun i hi => ⟨rfl, (μ00_3 i hi).trans rfl, rfl, rfl, rfl, fun s hs => ?_, okO_00⟩, fun i hi => absurd hi (Nat.not_lt_zero i), rfl, rfl, rfl, fun r hr => absurd hr (Nat.not_lt_zero r), fun q _ _ => rfl, fun q _ _ => rfl⟩
  match s, hs with
  | 0, _ => rfl
  | 1, _ => rfl
  | 2, _ => rfl
  | 3, _ => rfl
  | n + 4, h => exact absurd h (by omega)
theorem rs_00 : repS z0 0 := ⟨rfl, fun x _ => ⟨0, rfl, Nat.le_refl _⟩⟩
