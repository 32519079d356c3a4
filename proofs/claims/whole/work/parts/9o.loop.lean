/-! the law: the switch, the loop (by program) -/
theorem and15 (x : Int32) : ∃ n, n < 16 ∧ x &&& 15 = nI n := by
  refine ⟨(x &&& 15).toBitVec.toNat, ?_, nI_self _⟩
  show (x.toBitVec &&& (15 : Int32).toBitVec).toNat < 16
  rw [BitVec.toNat_and]
  exact Nat.lt_succ_of_le Nat.and_le_right
theorem lw_len6 : ∀ L, L < 6 → (nI L - 6).toInt = (L : Int) - 6 := by decide +kernel
theorem lw_len {L i : Nat} (hL : L ≤ 3072) (hi : i ≤ 4000) : nI L - 6 < nI i ↔ L < i + 6 := by
  by_cases h : L < 6
  · rw [Int32.lt_iff_toInt_lt, lw_len6 L h, nI_toInt (by omega)]
    omega
  · obtain ⟨d, rfl⟩ : ∃ d, L = d + 6 := ⟨L - 6, by omega⟩
    have e : nI (d + 6) - 6 = nI d := by
      rw [← nI_add d 6]
      exact Int32.add_sub_cancel _ _
    rw [e, nI_ltI (by omega) (by omega)]
    omega
set_option maxHeartbeats 2000000 in
theorem lw_step {p : Program} {l : Launch} {e : Env} {s : State} {m : MethodId} {below : List Frame} {meth : Method} {c : Code} {H : Heap} {locs : List Loc} {cells slots : Nat} {Q : State → Prop} {ls : Array Slot} {D : va_G} {k : Nat → ClassId} {A : Nat → Prop} {b L i : Nat} {xs : Nat → Int32} {gQ gM gX gB gT gK gL gU gP gR gA : Nat → Nat} {go : Nat → Nat → Nat} {A0 : AS} {st : Nat} (Z : Lx p s m meth c D k A b L xs) (hlt : l.stackTraces = false) (N : Nat) (hN : 100001 ≤ N) (hI : LInv D k A s gQ gM gX gB gT gK gL gU gP gR gA go A0 st H locs) (hst : st + 6 < 2 ^ 30) (hl : lv_has ls 7 [(0, .ref b), (1, .ref (gX 0)), (2, .ref (gM 0)), (3, .ref (gQ 0)), (4, .int (nI i))]) (hi : i + 6 ≤ L) (hc : cells + 24 ≤ 601024) (hs : slots + 163 ≤ 7293034)
    (kk : ∀ (A1 : AS) (st1 : Nat) (H : Heap) (locs : List Loc) (ls : Array Slot) (cells1 slots1 : Nat), LInv D k A s gQ gM gX gB gT gK gL gU gP gR gA go A1 st1 H locs → st1 ≤ st + 6 → cells1 ≤ cells + 24 → slots1 ≤ slots + 163 → lv_has ls 7 [(0, .ref b), (1, .ref (gX 0)), (2, .ref (gM 0)), (3, .ref (gQ 0)), (4, .int (nI i))] → W p l e room_1 s m #[Value.ref b] below meth c H locs cells1 slots1 Q (F0 m 1028 ls [])) : W p l e room_1 s m #[Value.ref b] below meth c H locs cells slots Q (F0 m 33 ls []) := by
  obtain ⟨C, hX, hXs, hbl, hbA, hL⟩ := id Z
  obtain ⟨hx, hb, hr, hlk, hml, hown, hts, hK, hA⟩ := id C
  have hS : va_S A s.heap H locs := by
    obtain ⟨_, _, _, _, _, _, _, _, _, _, _, _, _, _, _, _, _, _, _, _, _, _, hS⟩ := hI
    exact hS
  refine lv_aload_n hx hb d_law_33 rfl (lv_at hl 0 rfl) ?_
  refine lv_iload hx hb d_law_34 (lv_at hl 4 rfl) ?_
  refine va_sld hx hb hXs hbl hbA hS (vp_in_nI (by omega) (by omega)) d_law_36 ?_
  rw [nI_clamp (by omega)]
  refine lv_bipush (v := 15) hx hb d_law_37 (by decide) ?_
  refine lv_iand hx hb d_law_39 ?_
  obtain ⟨n, hn, e⟩ := and15 (xs i)
  rw [e]
  match n, hn with
  | 0, _ => exact lv_tableIn (off := 72) (tgt := 112) hx hb d_law_40 (by decide) (by decide) rfl (by decide) (lw_s0 Z hlt N hN hI hst hl hi hc hs kk)
  | 1, _ => exact lv_tableIn (off := 132) (tgt := 172) hx hb d_law_40 (by decide) (by decide) rfl (by decide) (lw_s1 Z hlt N hN hI hst hl hi hc hs kk)
  | 2, _ => exact lv_tableIn (off := 216) (tgt := 256) hx hb d_law_40 (by decide) (by decide) rfl (by decide) (lw_s2 Z hlt N hN hI hst hl hi hc hs kk)
  | 3, _ => exact lv_tableIn (off := 304) (tgt := 344) hx hb d_law_40 (by decide) (by decide) rfl (by decide) (lw_s3 Z hlt N hN hI hst hl hi hc hs kk)
  | 4, _ => exact lv_tableIn (off := 368) (tgt := 408) hx hb d_law_40 (by decide) (by decide) rfl (by decide) (lw_s4 Z hlt N hN hI hst hl hi hc hs kk)
  | 5, _ => exact lv_tableIn (off := 424) (tgt := 464) hx hb d_law_40 (by decide) (by decide) rfl (by decide) (lw_s5 Z hlt N hN hI hst hl hi hc hs kk)
  | 6, _ => exact lv_tableIn (off := 480) (tgt := 520) hx hb d_law_40 (by decide) (by decide) rfl (by decide) (lw_s6 Z hlt N hN hI hst hl hi hc hs kk)
  | 7, _ => exact lv_tableIn (off := 536) (tgt := 576) hx hb d_law_40 (by decide) (by decide) rfl (by decide) (lw_s7 Z hlt N hN hI hst hl hi hc hs kk)
  | 8, _ => exact lv_tableIn (off := 604) (tgt := 644) hx hb d_law_40 (by decide) (by decide) rfl (by decide) (lw_s8 Z hlt N hN hI hst hl hi hc hs kk)
  | 9, _ => exact lv_tableIn (off := 660) (tgt := 700) hx hb d_law_40 (by decide) (by decide) rfl (by decide) (lw_s9 Z hlt N hN hI hst hl hi hc hs kk)
  | 10, _ => exact lv_tableIn (off := 716) (tgt := 756) hx hb d_law_40 (by decide) (by decide) rfl (by decide) (lw_s10 Z hlt N hN hI hst hl hi hc hs kk)
  | 11, _ => exact lv_tableIn (off := 772) (tgt := 812) hx hb d_law_40 (by decide) (by decide) rfl (by decide) (lw_s11 Z hlt N hN hI hst hl hi hc hs kk)
  | 12, _ => exact lv_tableIn (off := 840) (tgt := 880) hx hb d_law_40 (by decide) (by decide) rfl (by decide) (lw_s12 Z hlt N hN hI hst hl hi hc hs kk)
  | 13, _ => exact lv_tableIn (off := 908) (tgt := 948) hx hb d_law_40 (by decide) (by decide) rfl (by decide) (lw_s13 Z hlt N hN hI hst hl hi hc hs kk)
  | 14, _ => exact lv_tableOut (tgt := 1028) hx hb d_law_40 (Or.inr (by decide)) (by decide) (kk A0 st H locs ls cells slots hI (by omega) (by omega) (by omega) hl)
  | 15, _ => exact lv_tableOut (tgt := 1028) hx hb d_law_40 (Or.inr (by decide)) (by decide) (kk A0 st H locs ls cells slots hI (by omega) (by omega) (by omega) hl)
  | n + 16, h => exact absurd h (by omega)
set_option maxHeartbeats 2000000 in
theorem lw_loop {p : Program} {l : Launch} {e : Env} {s : State} {m : MethodId} {below : List Frame} {meth : Method} {c : Code} {Q : State → Prop} {D : va_G} {k : Nat → ClassId} {A : Nat → Prop} {b L : Nat} {xs : Nat → Int32} {gQ gM gX gB gT gK gL gU gP gR gA : Nat → Nat} {go : Nat → Nat → Nat} (Z : Lx p s m meth c D k A b L xs) (hlt : l.stackTraces = false) (N : Nat) (hN : 100001 ≤ N) (kE : ∀ (H : Heap) (locs : List Loc) (ls : Array Slot) (cells slots : Nat), va_S A s.heap H locs → cells ≤ 601024 → slots ≤ 7293034 → ls.size = 7 → W p l e room_1 s m #[Value.ref b] below meth c H locs cells slots Q (F0 m 1034 ls [])) : ∀ (n i : Nat) (A0 : AS) (st : Nat) (H : Heap) (locs : List Loc) (ls : Array Slot) (cells slots : Nat), L < i + 6 * n + 6 → i ≤ 3072 → LInv D k A s gQ gM gX gB gT gK gL gU gP gR gA go A0 st H locs → st + 6 * n < 2 ^ 30 → cells + 24 * n ≤ 601024 → slots + 163 * n ≤ 7293034 → lv_has ls 7 [(0, .ref b), (1, .ref (gX 0)), (2, .ref (gM 0)), (3, .ref (gQ 0)), (4, .int (nI i))] → W p l e room_1 s m #[Value.ref b] below meth c H locs cells slots Q (F0 m 23 ls []) := by
  obtain ⟨C, hX, hXs, hbl, hbA, hL⟩ := id Z
  obtain ⟨hx, hb, hr, hlk, hml, hown, hts, hK, hA⟩ := id C
  intro n
  induction n with
  | zero =>
    intro i A0 st H locs ls cells slots h1 h2 hI h3 h4 h5 hl
    have hS : va_S A s.heap H locs := by
      obtain ⟨_, _, _, _, _, _, _, _, _, _, _, _, _, _, _, _, _, _, _, _, _, _, hS⟩ := hI
      exact hS
    refine lv_iload hx hb d_law_23 (lv_at hl 4 rfl) ?_
    refine lv_aload_n hx hb d_law_25 rfl (lv_at hl 0 rfl) ?_
    refine va_slen hx hb hXs hbl hbA hS d_law_26 ?_
    refine lv_bipush (v := 6) hx hb d_law_27 (by decide) ?_
    refine lv_isub hx hb d_law_29 ?_
    refine lv_icmp_gt (tgt := 1034) hx hb d_law_30 (by decide) (fun _ => kE H locs ls cells slots hS (by omega) (by omega) hl.1) (fun hn => absurd ((lw_len hL (by omega)).mpr (by omega)) hn)
  | succ n ih =>
    intro i A0 st H locs ls cells slots h1 h2 hI h3 h4 h5 hl
    have hS : va_S A s.heap H locs := by
      obtain ⟨_, _, _, _, _, _, _, _, _, _, _, _, _, _, _, _, _, _, _, _, _, _, hS⟩ := hI
      exact hS
    refine lv_iload hx hb d_law_23 (lv_at hl 4 rfl) ?_
    refine lv_aload_n hx hb d_law_25 rfl (lv_at hl 0 rfl) ?_
    refine va_slen hx hb hXs hbl hbA hS d_law_26 ?_
    refine lv_bipush (v := 6) hx hb d_law_27 (by decide) ?_
    refine lv_isub hx hb d_law_29 ?_
    refine lv_icmp_gt (tgt := 1034) hx hb d_law_30 (by decide) (fun _ => kE H locs ls cells slots hS (by omega) (by omega) hl.1) (fun hn => ?_)
    have hi6 : i + 6 ≤ L := by
      by_cases h : i + 6 ≤ L
      · exact h
      · exact absurd ((lw_len hL (by omega)).mpr (by omega)) hn
    refine lw_step Z hlt N hN hI (by omega) hl hi6 (by omega) (by omega) (fun A1 st1 H locs ls cells1 slots1 hI1 g1 g2 g3 hl => ?_)
    refine lv_iinc (v := nI (i + 6)) (lv' := [(4, .int (nI (i + 6))), (0, .ref b), (1, .ref (gX 0)), (2, .ref (gM 0)), (3, .ref (gQ 0))]) hx hb d_law_1028 hl (k := 4) rfl (nI_add i 6) (by decide) rfl (fun ls hl => ?_)
    refine lv_goto (tgt := 23) hx hb d_law_1031 (by decide) ?_
    exact ih (i + 6) A1 st1 H locs ls cells1 slots1 (by omega) (by omega) hI1 (by omega) (by omega) (by omega) (lv_sub hl [1, 2, 3, 4, 0] rfl)
