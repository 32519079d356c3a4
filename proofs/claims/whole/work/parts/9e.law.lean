/-! the law: the check of the answers -/
theorem lg_same (x : Int64) : lg_cmp x x = 0 := by
  unfold lg_cmp
  rw [if_neg (Int64.lt_irrefl), if_pos rfl]
section LW2
variable {p : Program} {l : Launch} {e : Env} {R : Room} {s : State} {m : MethodId} {below : List Frame} {meth : Method} {c : Code} {H : Heap} {locs : List Loc} {cells slots : Nat} {Q : State → Prop} {pc : Nat} {ls : Array Slot} {D : va_G} {k : Nat → ClassId} {A : Nat → Prop} {b L : Nat} {xs : Nat → Int32}
theorem lw_ans {gQ : Nat → Nat} {ο : Nat → Int64} {r : va_W} {kv bv : Int32} (Z : Lx p s m meth c D k A b L xs) (hP : va_P D CL (wOut k gQ ο ++ r) H) (h3 : ls[3]? = some (.val (.ref (gQ 0)))) (h5 : ls[5]? = some (.val (.int kv))) (h6 : ls[6]? = some (.val (.int bv))) (he : kv = 0 → ο 0 = Int32.toInt64 bv)
    (d0 : decode code pc = .ok (.iload 5, 2)) (d2 : decode code (pc + 2) = .ok (.ifCond .ne 15, 3)) (d5 : decode code (pc + 5) = .ok (.aload_n 3, 1)) (d6 : decode code (pc + 6) = .ok (.iconst 0, 1)) (d7 : decode code (pc + 7) = .ok (.laload, 1)) (d8 : decode code (pc + 8) = .ok (.iload 6, 2)) (d10 : decode code (pc + 10) = .ok (.i2l, 1)) (d11 : decode code (pc + 11) = .ok (.lcmp, 1)) (d12 : decode code (pc + 12) = .ok (.ifCond .eq 5, 3))
    (kk : W p l e R s m #[Value.ref b] below meth c H locs cells slots Q (F0 m (pc + 17) ls [])) : W p l e R s m #[Value.ref b] below meth c H locs cells slots Q (F0 m pc ls []) := by
  obtain ⟨C, hX, -, hbl, hbA, hL⟩ := Z
  obtain ⟨hx, hb, hr, hlk, hml, hown, hts, hK, hA⟩ := id C
  refine lv_iload hx hb d0 h5 ?_
  refine lv_if_ne (tgt := pc + 17) hx hb d2 (by omega) (fun _ => kk) (fun h0 => ?_)
  refine lv_aload_n hx hb d5 rfl h3 ?_
  refine lv_iconst (v := 0) hx hb d6 (by decide) ?_
  refine va_lald hx hb hK hP 0 2 rfl rfl (by unfold vp_in; decide) d7 ?_
  refine lv_iload hx hb d8 h6 ?_
  refine lv_i2l hx hb d10 rfl ?_
  refine W.lcmp hx hb d11 ?_
  refine lv_if_eq (tgt := pc + 17) hx hb d12 (by omega) (fun _ => kk) (fun hn => absurd ?_ hn)
  have : ο (Int32.toNatClampNeg 0) = Int32.toInt64 bv := he h0
  rw [this]
  exact lg_same _
end LW2
