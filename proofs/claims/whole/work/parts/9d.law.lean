/-! the law: what its walk holds; a read of the script; the reference among other cells -/
theorem Jn.mid {D : va_G} {A : Nat → Prop} {H H0 : Heap} {locs : List Loc} {a wc r : va_W} {S : Type} {wf : S → va_W} (hP : va_P D CL (a ++ (wc ++ r)) H) (hD : va_D A (a ++ (wc ++ r))) (hS : va_S A H0 H locs) (hA : ∀ q, H0.size ≤ q → A q) : Jn D A H wc wf (fun u => a ++ (wf u ++ r)) := by
  have pm : ∀ w : va_W, (a ++ (w ++ r)).Perm ((a ++ r) ++ w) := fun w => by
    rw [List.append_assoc a r w]
    exact List.Perm.append_left a List.perm_append_comm
  exact Jn.perm hP hD hS hA (pm wc) (fun u => (pm (wf u)).symm)
def Lx (p : Program) (s : State) (m : MethodId) (meth : Method) (c : Code) (D : va_G) (k : Nat → ClassId) (A : Nat → Prop) (b L : Nat) (xs : Nat → Int32) : Prop :=
  Cx p s m #[Value.ref b] meth c D k "PromotionTillLaw" code 7 ret A ∧ Xf D A s s.heap ∧ va_X b L xs s s.heap ∧ b < s.heap.size ∧ ¬ A b ∧ L ≤ 3072
section LW
variable {p : Program} {l : Launch} {e : Env} {R : Room} {s : State} {m : MethodId} {below : List Frame} {meth : Method} {c : Code} {H : Heap} {locs : List Loc} {cells slots : Nat} {Q : State → Prop} {pc : Nat} {ls : Array Slot} {D : va_G} {k : Nat → ClassId} {A : Nat → Prop} {rest : List Value} {b L : Nat} {xs : Nat → Int32}
theorem lw_rd {i j : Nat} {jv : Int} (Z : Lx p s m meth c D k A b L xs) (hS : va_S A s.heap H locs) (h0 : ls[0]? = some (.val (.ref b))) (h4 : ls[4]? = some (.val (.int (nI i)))) (hij : i + j < L)
    (d0 : decode code pc = .ok (.aload_n 0, 1)) (d1 : decode code (pc + 1) = .ok (.iload 4, 2)) (d3 : decode code (pc + 3) = .ok (.iconst jv, 1)) (hj : Int32.ofInt jv = nI j) (d4 : decode code (pc + 4) = .ok (.iadd, 1)) (d5 : decode code (pc + 5) = .ok (.iaload, 1))
    (kk : W p l e R s m #[Value.ref b] below meth c H locs cells slots Q (F0 m (pc + 6) ls (.int (xs (i + j)) :: rest))) : W p l e R s m #[Value.ref b] below meth c H locs cells slots Q (F0 m pc ls rest) := by
  obtain ⟨C, -, hX, hbl, hbA, hL⟩ := Z
  obtain ⟨hx, hb, -, -, -, -, -, -, -⟩ := C
  refine lv_aload_n hx hb d0 rfl h0 ?_
  refine lv_iload hx hb d1 h4 ?_
  refine lv_iconst hx hb d3 hj ?_
  refine lv_iadd hx hb d4 ?_
  rw [nI_add]
  refine va_sld hx hb hX hbl hbA hS (vp_in_nI hij (by omega)) d5 ?_
  rw [nI_clamp (by omega)]
  exact kk
theorem hd_thrown : y_Model_thrown.cls = "PromotionTillModel" ∧ y_Model_thrown.cls ≠ "java/lang/invoke/MethodHandle" ∧ y_Model_thrown.cls ≠ "java/lang/invoke/VarHandle" ∧ (parseMethodDescriptor y_Model_thrown.desc).map (fun d => d.parameters.length) = some 0 := by decide +kernel
/-- the two agree on what was thrown -/
theorem lw_thr {gM : Nat → Nat} {μ : St} {a r : va_W} {kv : Int32} (Z : Lx p s m meth c D k A b L xs) (hP : va_P D CL (a ++ (wModel k gM μ ++ r)) H) (hD : va_D A (a ++ (wModel k gM μ ++ r))) (hS : va_S A s.heap H locs) (hls : ls.size = 7) (h2 : ls[2]? = some (.val (.ref (gM 0)))) (h5 : ls[5]? = some (.val (.int kv))) (he : μ 39 0 = kv)
    (hR : rm_Model_thrown.frames + 1 ≤ R.frames ∧ 8 + (1 + 11) + rm_Model_thrown.locals ≤ R.locals) (hcs : cells + rm_Model_thrown.cells ≤ R.cells ∧ slots + rm_Model_thrown.slots ≤ R.slots)
    (d0 : decode code pc = .ok (.aload_n 2, 1)) (d1 : decode code (pc + 1) = .ok (.invokevirtual 76, 3)) (d4 : decode code (pc + 4) = .ok (.iload 5, 2)) (d6 : decode code (pc + 6) = .ok (.if_icmp .eq 5, 3))
    (kk : ∀ (H : Heap) (locs : List Loc), va_P D CL (a ++ (wModel k gM μ ++ r)) H → va_D A (a ++ (wModel k gM μ ++ r)) → va_S A s.heap H locs → W p l e R s m #[Value.ref b] below meth c H locs (cells + rm_Model_thrown.cells) (slots + rm_Model_thrown.slots) Q (F0 m (pc + 11) ls [])) : W p l e R s m #[Value.ref b] below meth c H locs cells slots Q (F0 m pc ls []) := by
  obtain ⟨C, hX, -, hbl, hbA, hL⟩ := Z
  obtain ⟨hx, hb, hr, hlk, hml, hown, hts, hK, hA⟩ := id C
  refine lv_aload_n hx hb d0 rfl h2 ?_
  refine callXV (As := []) (rest := []) C hX hS (Jn.mid (a := a) (r := r) hP hD hS hA) (CX.ofCi (m_Model_thrown 0 gM μ (fun v _ => v = μ 39 0) rfl)) kw_983 kw_984 kw_985 kw_12 kw_986 hd_thrown 0 rfl rfl rfl rfl hR hcs hls (Nat.le_of_ble_eq_true rfl) d1 (fun v9 u1 H locs h hP hD hS => ?_) (fun q9 E9 u1 ce9 H locs h hP hD hS hce9 hcv9 hcl9 => h.elim)
  obtain ⟨v, rfl, rfl⟩ := h
  refine W.eq (g2 := F0 m (pc + 4) ls [.int (μ 39 0)]) rfl ?_
  refine lv_iload hx hb d4 h5 ?_
  refine lv_icmp_eq (tgt := pc + 11) hx hb d6 (by omega) (fun _ => kk H locs hP hD hS) (fun hn => absurd he hn)
end LW
