/-! uses, packed in numbers -/
def pkd (o len a0 a1 a2 a3 : Nat) : Nat := a0 + 16 * a1 + 256 * a2 + 4096 * a3 + 65536 * len + 1048576 * o
def okP (o len a0 a1 a2 a3 : Nat) : Prop := o < 6 ∧ len ≤ 4 ∧ a0 < 12 ∧ a1 < 12 ∧ a2 < 12 ∧ a3 < 12
theorem shr15 {P : Nat} (hP : P < 2 ^ 31) (s : Int32) (k : Nat) (hs : (s.toBitVec.smod 32).toNat = k) : (nI P >>> s) &&& 15 = nI (P / 2 ^ k % 16) := by
  rw [pk_shrN hP s k hs, pk_andN (by have : P / 2 ^ k ≤ P := Nat.div_le_self _ _; omega) 4 (by decide)]
theorem pf_offerOf (N : Nat) {υ : St} {j o len a0 a1 a2 a3 : Nat} (hj : j < 1260) (h : υ 0 j = nI (pkd o len a0 a1 a2 a3)) (ok : okP o len a0 a1 a2 a3) (post : Int32 → Unit → Prop) (hp : post (nI o) ()) : wp_Uses_offerOf N υ (nI j) post := by
  obtain ⟨h1, h2, h3, h4, h5, h6⟩ := ok
  unfold wp_Uses_offerOf
  rw [nI_clamp (by omega), h, shr15 (by unfold pkd; omega) _ 20 (by decide), show pkd o len a0 a1 a2 a3 / 2 ^ 20 % 16 = o by unfold pkd; omega]
  exact ⟨vp_in_nI hj (by decide), hp⟩
theorem pf_unitsOf (N : Nat) {υ : St} {j o len a0 a1 a2 a3 : Nat} (hj : j < 1260) (h : υ 0 j = nI (pkd o len a0 a1 a2 a3)) (ok : okP o len a0 a1 a2 a3) (post : Int32 → Unit → Prop) (hp : post (nI len) ()) : wp_Uses_unitsOf N υ (nI j) post := by
  obtain ⟨h1, h2, h3, h4, h5, h6⟩ := ok
  unfold wp_Uses_unitsOf
  rw [nI_clamp (by omega), h, shr15 (by unfold pkd; omega) _ 16 (by decide), show pkd o len a0 a1 a2 a3 / 2 ^ 16 % 16 = len by unfold pkd; omega]
  exact ⟨vp_in_nI hj (by decide), hp⟩
/-- the article at a place -/
def ap (a0 a1 a2 a3 p : Nat) : Nat := if p = 0 then a0 else if p = 1 then a1 else if p = 2 then a2 else a3
theorem pf_articleOf (N : Nat) {υ : St} {j o len a0 a1 a2 a3 p : Nat} (hj : j < 1260) (hp4 : p < 4) (h : υ 0 j = nI (pkd o len a0 a1 a2 a3)) (ok : okP o len a0 a1 a2 a3) (post : Int32 → Unit → Prop) (hp : post (nI (ap a0 a1 a2 a3 p)) ()) : wp_Uses_articleOf N υ (nI j) (nI p) post := by
  obtain ⟨h1, h2, h3, h4, h5, h6⟩ := ok
  unfold wp_Uses_articleOf
  rw [nI_clamp (by omega), h]
  refine ⟨vp_in_nI hj (by decide), ?_⟩
  rcases (show p = 0 ∨ p = 1 ∨ p = 2 ∨ p = 3 by omega) with rfl | rfl | rfl | rfl
  · rw [shr15 (by unfold pkd; omega) _ 0 (by decide), show pkd o len a0 a1 a2 a3 / 2 ^ 0 % 16 = a0 by unfold pkd; omega]; exact hp
  · rw [shr15 (by unfold pkd; omega) _ 4 (by decide), show pkd o len a0 a1 a2 a3 / 2 ^ 4 % 16 = a1 by unfold pkd; omega]; exact hp
  · rw [shr15 (by unfold pkd; omega) _ 8 (by decide), show pkd o len a0 a1 a2 a3 / 2 ^ 8 % 16 = a2 by unfold pkd; omega]; exact hp
  · rw [shr15 (by unfold pkd; omega) _ 12 (by decide), show pkd o len a0 a1 a2 a3 / 2 ^ 12 % 16 = a3 by unfold pkd; omega]; exact hp
theorem pf_has (N : Nat) {υ : St} {j z : Nat} (hz : υ 9 0 = nI z) (hj : j < z) (hz2 : z ≤ 1260) (post : Int32 → Unit → Prop) (hp : post 1 ()) : wp_Uses_has N υ (nI j) post := by
  unfold wp_Uses_has
  refine ⟨fun hc => absurd hc (nI_pos (by omega)), fun _ => ⟨fun hc => ?_, fun _ => hp⟩⟩
  rw [hz, leL (by omega) (by omega)] at hc; omega
theorem pf_hasNot (N : Nat) {υ : St} (post : Int32 → Unit → Prop) (hp : post 0 ()) : wp_Uses_has N υ (-1) post := by
  unfold wp_Uses_has wp_Uses_has_16
  exact ⟨fun _ => hp, fun hc => absurd (by decide) hc⟩
