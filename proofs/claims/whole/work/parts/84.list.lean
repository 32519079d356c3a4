/-! ArrayList: the constructor, add (by program) -/
theorem kw_228 : Cond.sameField "java/util/ArrayList" "java/util/AbstractList" "modCount" "I" ∈ gw_T := gw_a1 228 rfl rfl
theorem retX_q {p : Program} {l : Launch} {e : Env} {R : Room} {s : State} {m : MethodId} {args : Array Value} {below : List Frame} {meth : Method} {c : Code} {H : Heap} {locs : List Loc} {cells slots : Nat} {cc : ByteArray} {nL pc : Nat} {ls : Array Slot} {D : va_G} {k : Nat → ClassId} {own : String} {A : Nat → Prop} {S : Type} {wf : S → va_W} {post : Option Value → S → Prop} {xp : String → S → Prop} {q : Nat} {ty : FieldType} {u : S} {mc ms : Nat} (C : Cx p s m args meth c D k own cc nL (some (.array ty)) A) (hP : va_P D CL (wf u) H) (hD : va_D A (wf u)) (hS : va_S A s.heap H locs) (hc : cells ≤ mc) (hs : slots ≤ ms) (hp : post (some (.ref q)) u) (hdg : decode cc pc = .ok (.areturn, 1)) :
    W p l e R s m args below meth c H locs cells slots (XQ below D A wf post xp s mc ms) (F0 m pc ls [.ref q]) :=
  W.widen hc hs (endX hP hD hS hp (W.aret C.1 C.2.1 C.2.2.1 (Or.inr ⟨ty, rfl⟩) (Or.inr ⟨q, rfl⟩) (fun t ht _ => ⟨rfl, ht⟩) hS.2.2 hdg C.2.2.2.1))
theorem retX_z {p : Program} {l : Launch} {e : Env} {R : Room} {s : State} {m : MethodId} {args : Array Value} {below : List Frame} {meth : Method} {c : Code} {H : Heap} {locs : List Loc} {cells slots : Nat} {cc : ByteArray} {nL pc : Nat} {ls : Array Slot} {D : va_G} {k : Nat → ClassId} {own : String} {A : Nat → Prop} {S : Type} {wf : S → va_W} {post : Option Value → S → Prop} {xp : String → S → Prop} {v : Int32} {u : S} {mc ms : Nat} (C : Cx p s m args meth c D k own cc nL (some .boolean) A) (hn : narrow .boolean (.int v) = .int v) (hP : va_P D CL (wf u) H) (hD : va_D A (wf u)) (hS : va_S A s.heap H locs) (hc : cells ≤ mc) (hs : slots ≤ ms) (hp : post (some (.int v)) u) (hdg : decode cc pc = .ok (.ireturn, 1)) :
    W p l e R s m args below meth c H locs cells slots (XQ below D A wf post xp s mc ms) (F0 m pc ls [.int v]) :=
  W.widen hc hs (endX hP hD hS hp (W.zret C.1 C.2.1 C.2.2.1 hn (fun t ht _ => ⟨rfl, ht⟩) hS.2.2 hdg C.2.2.2.1))
abbrev b_AC_init : ByteArray := prog_24_method_1_code
def y_AC_init : MethodName := ⟨"java/util/AbstractCollection", "<init>", "()V"⟩
theorem d_AC_init_0 : decode b_AC_init 0 = .ok (.aload_n 0, 1) := by decide +kernel
theorem d_AC_init_1 : decode b_AC_init 1 = .ok (.invokespecial 1, 3) := by decide +kernel
theorem d_AC_init_4 : decode b_AC_init 4 = .ok (.return_, 1) := by decide +kernel
theorem hd_AC_init : y_AC_init.cls = "java/util/AbstractCollection" ∧ y_AC_init.cls ≠ "java/lang/invoke/MethodHandle" ∧ y_AC_init.cls ≠ "java/lang/invoke/VarHandle" ∧ (parseMethodDescriptor y_AC_init.desc).map (fun d => d.parameters.length) = some 0 := by decide +kernel
abbrev rm_AC_init : Room := { frames := 1, cells := 0, slots := 0, locals := 20 }
set_option maxHeartbeats 4000000 in
set_option maxRecDepth 100000 in
theorem m_AC_init {l : Launch} {D : va_G} {k : Nat → ClassId} (a : Nat) : CX l D k y_AC_init b_AC_init 1 none rm_AC_init [.ref a] [] (fun u : Unit => []) (fun v (u : Unit) => v = none) (fun _ _ => False) := by
  refine CX.ofI (by decide) (Nat.le_of_ble_eq_true rfl) rfl ?_
  intro p e s m below meth c A H locs ls C hX hcx hnm hP hD hS hl
  obtain ⟨hx, hb, hr, hlk, hml, hown, hts, hK, hA⟩ := id C
  obtain ⟨t99, hZ99, hT99, hZ9, hT9, hM9⟩ := id hX.2
  replace hl : lv_has ls 1 [(0, .ref a)] := hl
  refine lv_aload_n hx hb d_AC_init_0 rfl (lv_at hl 0 rfl) ?_
  refine obj0 C kw_221 hl.1 d_AC_init_1 (Nat.le_of_ble_eq_true rfl) (Nat.le_of_ble_eq_true rfl) ?_
  refine retX_v (u := ()) (wf := fun u : Unit => []) C (hP.sub [] rfl) (hD.sub [] (by decide) rfl) hS (Nat.le_of_ble_eq_true rfl) (Nat.le_of_ble_eq_true rfl) rfl d_AC_init_4
abbrev b_ALi_init : ByteArray := prog_25_method_1_code
def y_ALi_init : MethodName := ⟨"java/util/AbstractList", "<init>", "()V"⟩
theorem d_ALi_init_0 : decode b_ALi_init 0 = .ok (.aload_n 0, 1) := by decide +kernel
theorem d_ALi_init_1 : decode b_ALi_init 1 = .ok (.invokespecial 1, 3) := by decide +kernel
theorem d_ALi_init_4 : decode b_ALi_init 4 = .ok (.aload_n 0, 1) := by decide +kernel
theorem d_ALi_init_5 : decode b_ALi_init 5 = .ok (.iconst 0, 1) := by decide +kernel
theorem d_ALi_init_6 : decode b_ALi_init 6 = .ok (.putfield 7, 3) := by decide +kernel
theorem d_ALi_init_9 : decode b_ALi_init 9 = .ok (.return_, 1) := by decide +kernel
theorem hd_ALi_init : y_ALi_init.cls = "java/util/AbstractList" ∧ y_ALi_init.cls ≠ "java/lang/invoke/MethodHandle" ∧ y_ALi_init.cls ≠ "java/lang/invoke/VarHandle" ∧ (parseMethodDescriptor y_ALi_init.desc).map (fun d => d.parameters.length) = some 0 := by decide +kernel
abbrev rm_ALi_init : Room := { frames := 2, cells := 0, slots := 0, locals := 40 }
set_option maxHeartbeats 4000000 in
set_option maxRecDepth 100000 in
theorem m_ALi_init {l : Launch} {D : va_G} {k : Nat → ClassId} (a : Nat) (x0 : Int32) (e0 : Value) (x2 : Int32) : CX l D k y_ALi_init b_ALi_init 1 none rm_ALi_init [.ref a] [(a, .inr (9, [.int x0, e0, .int x2]))] (fun u : Unit => [(a, .inr (9, [.int 0, e0, .int x2]))]) (fun v (u : Unit) => v = none) (fun _ _ => False) := by
  refine CX.ofI (by decide) (Nat.le_of_ble_eq_true rfl) rfl ?_
  intro p e s m below meth c A H locs ls C hX hcx hnm hP hD hS hl
  obtain ⟨hx, hb, hr, hlk, hml, hown, hts, hK, hA⟩ := id C
  obtain ⟨t99, hZ99, hT99, hZ9, hT9, hM9⟩ := id hX.2
  replace hl : lv_has ls 1 [(0, .ref a)] := hl
  refine lv_aload_n hx hb d_ALi_init_0 rfl (lv_at hl 0 rfl) ?_
  refine callXI (As := []) (rest := []) C hX hS (Jn.part (wr := [(a, .inr (9, [.int x0, e0, .int x2]))]) (wn := fun u0 : Unit => [(a, .inr (9, [.int x0, e0, .int x2]))]) hP hD hS hA [] [0] [0] rfl (by decide) rfl (by decide) (by decide) (fun _ => rfl) (by decide)) (m_AC_init a ) (Or.inl kw_218) kw_219 kw_9 kw_220 rfl (hd_AC_init).2 rfl ⟨(Nat.le_of_ble_eq_true rfl), (Nat.le_of_ble_eq_true rfl)⟩ ⟨(Nat.le_of_ble_eq_true rfl), (Nat.le_of_ble_eq_true rfl)⟩ hl.1 (Nat.le_of_ble_eq_true rfl) d_ALi_init_1 (fun u0 H locs h hP hD hS => ?_) (fun _ _ h => h)
  clear h
  replace hP : va_P D CL ([(a, .inr (9, [.int x0, e0, .int x2]))]) H := hP
  replace hD : va_D A ([(a, .inr (9, [.int x0, e0, .int x2]))]) := hD
  refine W.eq (g2 := F0 m 4 ls []) rfl ?_
  refine lv_aload_n hx hb d_ALi_init_4 rfl (lv_at hl 0 rfl) ?_
  refine lv_iconst (v := 0) hx hb d_ALi_init_5 (by decide) ?_
  refine va_put (D := D) (ci := 9) (v := .int 0) (ty := .int) (C := R_AL) (T := F_AL) (N := 3) hx hb hts in_AL t_AL tt_AL n_AL hown hK hP hD hS 0 rfl rfl 0 (by decide) (hts _ kw_226) (fun _ h9 => h9) rfl (by decide +kernel) rfl rfl (Nat.le_of_ble_eq_true rfl) d_ALi_init_6 (fun H locs hP hD hS => ?_)
  replace hP : va_P D CL ([(a, .inr (9, [.int 0, e0, .int x2]))]) H := hP
  replace hD : va_D A ([(a, .inr (9, [.int 0, e0, .int x2]))]) := hD
  refine retX_v (u := ()) (wf := fun u : Unit => [(a, .inr (9, [.int 0, e0, .int x2]))]) C (hP.sub [0] rfl) (hD.sub [0] (by decide) rfl) hS (Nat.le_of_ble_eq_true rfl) (Nat.le_of_ble_eq_true rfl) rfl d_ALi_init_9
abbrev b_AL_init : ByteArray := prog_26_method_2_code
def y_AL_init : MethodName := ⟨"java/util/ArrayList", "<init>", "()V"⟩
theorem d_AL_init_0 : decode b_AL_init 0 = .ok (.aload_n 0, 1) := by decide +kernel
theorem d_AL_init_1 : decode b_AL_init 1 = .ok (.invokespecial 1, 3) := by decide +kernel
theorem d_AL_init_4 : decode b_AL_init 4 = .ok (.aload_n 0, 1) := by decide +kernel
theorem d_AL_init_5 : decode b_AL_init 5 = .ok (.getstatic 39, 3) := by decide +kernel
theorem d_AL_init_8 : decode b_AL_init 8 = .ok (.putfield 9, 3) := by decide +kernel
theorem d_AL_init_11 : decode b_AL_init 11 = .ok (.return_, 1) := by decide +kernel
theorem hd_AL_init : y_AL_init.cls = "java/util/ArrayList" ∧ y_AL_init.cls ≠ "java/lang/invoke/MethodHandle" ∧ y_AL_init.cls ≠ "java/lang/invoke/VarHandle" ∧ (parseMethodDescriptor y_AL_init.desc).map (fun d => d.parameters.length) = some 0 := by decide +kernel
abbrev rm_AL_init : Room := { frames := 3, cells := 0, slots := 0, locals := 60 }
set_option maxHeartbeats 4000000 in
set_option maxRecDepth 100000 in
theorem m_AL_init {l : Launch} {D : va_G} {k : Nat → ClassId} (a : Nat) : CX l D k y_AL_init b_AL_init 1 none rm_AL_init [.ref a] [(a, .inr (9, [.int 0, .null, .int 0]))] (fun u : Unit => [(a, .inr (9, [.int 0, .ref (D.1 10), .int 0]))]) (fun v (u : Unit) => v = none) (fun _ _ => False) := by
  refine CX.ofI (by decide) (Nat.le_of_ble_eq_true rfl) rfl ?_
  intro p e s m below meth c A H locs ls C hX hcx hnm hP hD hS hl
  obtain ⟨hx, hb, hr, hlk, hml, hown, hts, hK, hA⟩ := id C
  obtain ⟨t99, hZ99, hT99, hZ9, hT9, hM9⟩ := id hX.2
  replace hl : lv_has ls 1 [(0, .ref a)] := hl
  refine lv_aload_n hx hb d_AL_init_0 rfl (lv_at hl 0 rfl) ?_
  refine callXI (As := []) (rest := []) C hX hS (Jn.part (wr := []) (wn := fun u0 : Unit => [(a, .inr (9, [.int 0, .null, .int 0]))]) hP hD hS hA [0] [] [0] rfl (by decide) rfl (by decide) (by decide) (fun _ => rfl) (by decide)) (m_ALi_init a 0 .null 0 ) (Or.inl kw_215) kw_216 kw_10 kw_217 rfl (hd_ALi_init).2 rfl ⟨(Nat.le_of_ble_eq_true rfl), (Nat.le_of_ble_eq_true rfl)⟩ ⟨(Nat.le_of_ble_eq_true rfl), (Nat.le_of_ble_eq_true rfl)⟩ hl.1 (Nat.le_of_ble_eq_true rfl) d_AL_init_1 (fun u0 H locs h hP hD hS => ?_) (fun _ _ h => h)
  clear h
  replace hP : va_P D CL ([(a, .inr (9, [.int 0, .null, .int 0]))]) H := hP
  replace hD : va_D A ([(a, .inr (9, [.int 0, .null, .int 0]))]) := hD
  refine W.eq (g2 := F0 m 4 ls []) rfl ?_
  refine lv_aload_n hx hb d_AL_init_4 rfl (lv_at hl 0 rfl) ?_
  refine va_gets hx hb hZ9 hS hown (hts _ kw_222) (fun _ h => h) d_AL_init_5 ?_
  refine va_put (D := D) (ci := 9) (v := .ref (D.1 10)) (ty := .array (.object "java/lang/Object")) (C := R_AL) (T := F_AL) (N := 3) hx hb hts in_AL t_AL tt_AL n_AL hown hK hP hD hS 0 rfl rfl 1 (by decide) (hts _ kw_224) (fun _ h9 => h9) rfl (by decide +kernel) rfl rfl (Nat.le_of_ble_eq_true rfl) d_AL_init_8 (fun H locs hP hD hS => ?_)
  replace hP : va_P D CL ([(a, .inr (9, [.int 0, .ref (D.1 10), .int 0]))]) H := hP
  replace hD : va_D A ([(a, .inr (9, [.int 0, .ref (D.1 10), .int 0]))]) := hD
  refine retX_v (u := ()) (wf := fun u : Unit => [(a, .inr (9, [.int 0, .ref (D.1 10), .int 0]))]) C (hP.sub [0] rfl) (hD.sub [0] (by decide) rfl) hS (Nat.le_of_ble_eq_true rfl) (Nat.le_of_ble_eq_true rfl) rfl d_AL_init_11
abbrev b_AS_newLength : ByteArray := prog_33_method_27_code
def y_AS_newLength : MethodName := ⟨"jdk/internal/util/ArraysSupport", "newLength", "(III)I"⟩
theorem d_AS_newLength_0 : decode b_AS_newLength 0 = .ok (.iload_n 0, 1) := by decide +kernel
theorem d_AS_newLength_1 : decode b_AS_newLength 1 = .ok (.iload_n 1, 1) := by decide +kernel
theorem d_AS_newLength_2 : decode b_AS_newLength 2 = .ok (.iload_n 2, 1) := by decide +kernel
theorem d_AS_newLength_3 : decode b_AS_newLength 3 = .ok (.invokestatic 194, 3) := by decide +kernel
theorem d_AS_newLength_6 : decode b_AS_newLength 6 = .ok (.iadd, 1) := by decide +kernel
theorem d_AS_newLength_7 : decode b_AS_newLength 7 = .ok (.istore_n 3, 1) := by decide +kernel
theorem d_AS_newLength_8 : decode b_AS_newLength 8 = .ok (.iconst 0, 1) := by decide +kernel
theorem d_AS_newLength_9 : decode b_AS_newLength 9 = .ok (.iload_n 3, 1) := by decide +kernel
theorem d_AS_newLength_10 : decode b_AS_newLength 10 = .ok (.if_icmp .ge 11, 3) := by decide +kernel
theorem d_AS_newLength_13 : decode b_AS_newLength 13 = .ok (.iload_n 3, 1) := by decide +kernel
theorem d_AS_newLength_14 : decode b_AS_newLength 14 = .ok (.ldc 200, 2) := by decide +kernel
theorem d_AS_newLength_16 : decode b_AS_newLength 16 = .ok (.if_icmp .gt 5, 3) := by decide +kernel
theorem d_AS_newLength_19 : decode b_AS_newLength 19 = .ok (.iload_n 3, 1) := by decide +kernel
theorem d_AS_newLength_20 : decode b_AS_newLength 20 = .ok (.ireturn, 1) := by decide +kernel
theorem d_AS_newLength_21 : decode b_AS_newLength 21 = .ok (.iload_n 0, 1) := by decide +kernel
theorem d_AS_newLength_22 : decode b_AS_newLength 22 = .ok (.iload_n 1, 1) := by decide +kernel
theorem d_AS_newLength_23 : decode b_AS_newLength 23 = .ok (.invokestatic 201, 3) := by decide +kernel
theorem d_AS_newLength_26 : decode b_AS_newLength 26 = .ok (.ireturn, 1) := by decide +kernel
theorem hd_AS_newLength : y_AS_newLength.cls = "jdk/internal/util/ArraysSupport" ∧ y_AS_newLength.cls ≠ "java/lang/invoke/MethodHandle" ∧ y_AS_newLength.cls ≠ "java/lang/invoke/VarHandle" ∧ (parseMethodDescriptor y_AS_newLength.desc).map (fun d => d.parameters.length) = some 3 := by decide +kernel
abbrev rm_AS_newLength : Room := { frames := 2, cells := 0, slots := 0, locals := 60 }
set_option maxHeartbeats 4000000 in
set_option maxRecDepth 100000 in
theorem m_AS_newLength {l : Launch} {D : va_G} {k : Nat → ClassId} : CX l D k y_AS_newLength b_AS_newLength 4 (some .int) rm_AS_newLength [.int 10, .int 1, .int 5] [] (fun u : Unit => []) (fun v (u : Unit) => v = some (.int 15)) (fun _ _ => False) := by
  refine CX.of (by decide) (Nat.le_of_ble_eq_true rfl) ?_
  intro p e s m below meth c A H locs ls C hX hcx hP hD hS hl
  obtain ⟨hx, hb, hr, hlk, hml, hown, hts, hK, hA⟩ := id C
  obtain ⟨t99, hZ99, hT99, hZ9, hT9, hM9⟩ := id hX.2
  replace hl : lv_has ls 4 [(0, .int 10), (1, .int 1), (2, .int 5)] := hl
  refine lv_iload_n hx hb d_AS_newLength_0 rfl (lv_at hl 0 rfl) ?_
  refine lv_iload_n hx hb d_AS_newLength_1 rfl (lv_at hl 1 rfl) ?_
  refine lv_iload_n hx hb d_AS_newLength_2 rfl (lv_at hl 2 rfl) ?_
  refine va_mmax (R := rm_AS_newLength) (rest := [.int 10]) hx hb (by rw [hml]; exact hl.1.symm) hown (hts _ kw_765) (hts _ kw_766) (hts _ kw_20) (hts _ kw_767) (Nat.le_of_ble_eq_true rfl) (Nat.le_of_ble_eq_true rfl) (Nat.le_of_ble_eq_true rfl) (Nat.le_of_ble_eq_true rfl) d_AS_newLength_3 ?_
  refine W.eq (g2 := F0 m 6 ls [.int 5, .int 10]) rfl ?_
  refine lv_iadd hx hb d_AS_newLength_6 ?_
  refine W.eq (g2 := F0 m 7 ls [.int 15]) rfl ?_
  refine lv_istore_n (lv' := [(3, .int 15), (0, .int 10), (1, .int 1), (2, .int 5)]) hx hb d_AS_newLength_7 rfl hl (by decide) rfl (fun ls hl => ?_)
  refine lv_iconst (v := 0) hx hb d_AS_newLength_8 (by decide) ?_
  refine lv_iload_n hx hb d_AS_newLength_9 rfl (lv_at hl 0 rfl) ?_
  refine lv_icmp_ge (tgt := 21) hx hb d_AS_newLength_10 (by decide) (fun c9 => absurd c9 (by decide)) (fun _ => ?_)
  refine lv_iload_n hx hb d_AS_newLength_13 rfl (lv_at hl 0 rfl) ?_
  refine lv_ldc (v := 2147483639) hx hb hown (hts _ kw_768) d_AS_newLength_14 ?_
  refine lv_icmp_gt (tgt := 21) hx hb d_AS_newLength_16 (by decide) (fun c9 => absurd c9 (by decide)) (fun _ => ?_)
  refine lv_iload_n hx hb d_AS_newLength_19 rfl (lv_at hl 0 rfl) ?_
  refine retX_i (u := ()) (wf := fun u : Unit => []) C (hP.sub [] rfl) (hD.sub [] (by decide) rfl) hS (Nat.le_of_ble_eq_true rfl) (Nat.le_of_ble_eq_true rfl) rfl d_AS_newLength_20
abbrev b_As_copyOf3 : ByteArray := prog_27_method_120_code
def y_As_copyOf3 : MethodName := ⟨"java/util/Arrays", "copyOf", "([Ljava/lang/Object;ILjava/lang/Class;)[Ljava/lang/Object;"⟩
theorem d_As_copyOf3_0 : decode b_As_copyOf3 0 = .ok (.aload_n 2, 1) := by decide +kernel
theorem d_As_copyOf3_1 : decode b_As_copyOf3 1 = .ok (.ldc 110, 2) := by decide +kernel
theorem d_As_copyOf3_3 : decode b_As_copyOf3 3 = .ok (.if_acmp .ne 10, 3) := by decide +kernel
theorem d_As_copyOf3_6 : decode b_As_copyOf3 6 = .ok (.iload_n 1, 1) := by decide +kernel
theorem d_As_copyOf3_7 : decode b_As_copyOf3 7 = .ok (.anewarray 2, 3) := by decide +kernel
theorem d_As_copyOf3_10 : decode b_As_copyOf3 10 = .ok (.goto 14, 3) := by decide +kernel
theorem d_As_copyOf3_13 : decode b_As_copyOf3 13 = .ok (.aload_n 2, 1) := by decide +kernel
theorem d_As_copyOf3_14 : decode b_As_copyOf3 14 = .ok (.invokevirtual 90, 3) := by decide +kernel
theorem d_As_copyOf3_17 : decode b_As_copyOf3 17 = .ok (.iload_n 1, 1) := by decide +kernel
theorem d_As_copyOf3_18 : decode b_As_copyOf3 18 = .ok (.invokestatic 95, 3) := by decide +kernel
theorem d_As_copyOf3_21 : decode b_As_copyOf3 21 = .ok (.checkcast 110, 3) := by decide +kernel
theorem d_As_copyOf3_24 : decode b_As_copyOf3 24 = .ok (.astore_n 3, 1) := by decide +kernel
theorem d_As_copyOf3_25 : decode b_As_copyOf3 25 = .ok (.aload_n 0, 1) := by decide +kernel
theorem d_As_copyOf3_26 : decode b_As_copyOf3 26 = .ok (.iconst 0, 1) := by decide +kernel
theorem d_As_copyOf3_27 : decode b_As_copyOf3 27 = .ok (.aload_n 3, 1) := by decide +kernel
theorem d_As_copyOf3_28 : decode b_As_copyOf3 28 = .ok (.iconst 0, 1) := by decide +kernel
theorem d_As_copyOf3_29 : decode b_As_copyOf3 29 = .ok (.aload_n 0, 1) := by decide +kernel
theorem d_As_copyOf3_30 : decode b_As_copyOf3 30 = .ok (.arraylength, 1) := by decide +kernel
theorem d_As_copyOf3_31 : decode b_As_copyOf3 31 = .ok (.iload_n 1, 1) := by decide +kernel
theorem d_As_copyOf3_32 : decode b_As_copyOf3 32 = .ok (.invokestatic 304, 3) := by decide +kernel
theorem d_As_copyOf3_35 : decode b_As_copyOf3 35 = .ok (.invokestatic 150, 3) := by decide +kernel
theorem d_As_copyOf3_38 : decode b_As_copyOf3 38 = .ok (.aload_n 3, 1) := by decide +kernel
theorem d_As_copyOf3_39 : decode b_As_copyOf3 39 = .ok (.areturn, 1) := by decide +kernel
theorem hd_As_copyOf3 : y_As_copyOf3.cls = "java/util/Arrays" ∧ y_As_copyOf3.cls ≠ "java/lang/invoke/MethodHandle" ∧ y_As_copyOf3.cls ≠ "java/lang/invoke/VarHandle" ∧ (parseMethodDescriptor y_As_copyOf3.desc).map (fun d => d.parameters.length) = some 3 := by decide +kernel
abbrev rm_As_copyOf3 : Room := { frames := 2, cells := 1, slots := 15, locals := 60 }
set_option maxHeartbeats 4000000 in
set_option maxRecDepth 100000 in
theorem m_As_copyOf3 {l : Launch} {D : va_G} {k : Nat → ClassId} (b : Nat) (yT : Nat → Nat) (vT : Nat → List Value) : CX l D k y_As_copyOf3 b_As_copyOf3 4 (some (.array (.object "java/lang/Object"))) rm_As_copyOf3 [.ref b, .int 15, .ref (D.1 11)] [(b, .inl (k 4, 10, .inr (.inr (.inr (.inr (fun i => some (yT i))))))), ((yT 0), .inr (4, (vT 0))), ((yT 1), .inr (4, (vT 1))), ((yT 2), .inr (4, (vT 2))), ((yT 3), .inr (4, (vT 3))), ((yT 4), .inr (4, (vT 4))), ((yT 5), .inr (4, (vT 5))), ((yT 6), .inr (4, (vT 6))), ((yT 7), .inr (4, (vT 7))), ((yT 8), .inr (4, (vT 8))), ((yT 9), .inr (4, (vT 9)))] (fun u : Nat => [(u, .inl (k 4, 15, .inr (.inr (.inr (.inr (va_cpy (fun i => some (yT i)) (fun _ => none) 0 0 10)))))), ((yT 0), .inr (4, (vT 0))), ((yT 1), .inr (4, (vT 1))), ((yT 2), .inr (4, (vT 2))), ((yT 3), .inr (4, (vT 3))), ((yT 4), .inr (4, (vT 4))), ((yT 5), .inr (4, (vT 5))), ((yT 6), .inr (4, (vT 6))), ((yT 7), .inr (4, (vT 7))), ((yT 8), .inr (4, (vT 8))), ((yT 9), .inr (4, (vT 9)))]) (fun v (u : Nat) => v = some (.ref u)) (fun _ _ => False) := by
  refine CX.of (by decide) (Nat.le_of_ble_eq_true rfl) ?_
  intro p e s m below meth c A H locs ls C hX hcx hP hD hS hl
  obtain ⟨hx, hb, hr, hlk, hml, hown, hts, hK, hA⟩ := id C
  obtain ⟨t99, hZ99, hT99, hZ9, hT9, hM9⟩ := id hX.2
  have hca9 : va_Nw (.castable "PromotionTill$Receipt" "java/lang/Object") s := hX.1 s #[] (State.WarmedH.refl s) (fun _ _ _ => rfl) _ (by decide +kernel)
  have hasg9 : ∀ comp c0 : ClassId, s.vm.findClass "java/lang/Object" = some comp → s.vm.findClass R_Rec = some c0 → s.vm.assignable c0 comp = true := by
    intro comp c0 h1 h2
    obtain ⟨c3, t3, w1, w2, w3⟩ := Cond.castable_spec hca9
    cases h2.symm.trans w1
    cases h1.symm.trans w2
    exact w3
  replace hl : lv_has ls 4 [(0, .ref b), (1, .int 15), (2, .ref (D.1 11))] := hl
  refine lv_aload_n hx hb d_As_copyOf3_0 rfl (lv_at hl 2 rfl) ?_
  refine va_ldcM hx hb hown (hts _ kw_796) hM9 d_As_copyOf3_1 ?_
  refine lv_acmp_ne (rx := some (D.1 11)) (ry := some (D.1 11)) (tgt := 13) hx hb d_As_copyOf3_3 (by decide) (fun c9 => absurd rfl c9) (fun _ => ?_)
  refine lv_iload_n hx hb d_As_copyOf3_6 rfl (lv_at hl 1 rfl) ?_
  refine new_q (Cn := "java/lang/Object") (N' := 15) C hX hP hD hS 4 rfl kw_798 (by decide +kernel) (by decide) (by decide) (by decide) (Nat.le_of_ble_eq_true rfl) (Nat.le_of_ble_eq_true rfl) d_As_copyOf3_7 (fun q0 H hP hD hS => ?_)
  replace hP : va_P D CL ([(b, .inl (k 4, 10, .inr (.inr (.inr (.inr (fun i => some (yT i))))))), ((yT 0), .inr (4, (vT 0))), ((yT 1), .inr (4, (vT 1))), ((yT 2), .inr (4, (vT 2))), ((yT 3), .inr (4, (vT 3))), ((yT 4), .inr (4, (vT 4))), ((yT 5), .inr (4, (vT 5))), ((yT 6), .inr (4, (vT 6))), ((yT 7), .inr (4, (vT 7))), ((yT 8), .inr (4, (vT 8))), ((yT 9), .inr (4, (vT 9))), (q0, .inl (k 4, 15, .inr (.inr (.inr (.inr (fun _ => none))))))]) H := hP
  replace hD : va_D A ([(b, .inl (k 4, 10, .inr (.inr (.inr (.inr (fun i => some (yT i))))))), ((yT 0), .inr (4, (vT 0))), ((yT 1), .inr (4, (vT 1))), ((yT 2), .inr (4, (vT 2))), ((yT 3), .inr (4, (vT 3))), ((yT 4), .inr (4, (vT 4))), ((yT 5), .inr (4, (vT 5))), ((yT 6), .inr (4, (vT 6))), ((yT 7), .inr (4, (vT 7))), ((yT 8), .inr (4, (vT 8))), ((yT 9), .inr (4, (vT 9))), (q0, .inl (k 4, 15, .inr (.inr (.inr (.inr (fun _ => none))))))]) := hD
  refine lv_goto (tgt := 24) hx hb d_As_copyOf3_10 (by decide) ?_
  refine lv_astore_n (lv' := [(3, .ref q0), (0, .ref b), (1, .int 15), (2, .ref (D.1 11))]) hx hb d_As_copyOf3_24 rfl hl (by decide) rfl (fun ls hl => ?_)
  refine lv_aload_n hx hb d_As_copyOf3_25 rfl (lv_at hl 1 rfl) ?_
  refine lv_iconst (v := 0) hx hb d_As_copyOf3_26 (by decide) ?_
  refine lv_aload_n hx hb d_As_copyOf3_27 rfl (lv_at hl 0 rfl) ?_
  refine lv_iconst (v := 0) hx hb d_As_copyOf3_28 (by decide) ?_
  refine lv_aload_n hx hb d_As_copyOf3_29 rfl (lv_at hl 1 rfl) ?_
  refine va_alen (v := 10) hx hb hK hP 0 4 rfl rfl rfl d_As_copyOf3_30 ?_
  refine lv_iload_n hx hb d_As_copyOf3_31 rfl (lv_at hl 2 rfl) ?_
  refine va_mmin (R := rm_As_copyOf3) (rest := [.int 0, .ref q0, .int 0, .ref b]) hx hb (by rw [hml]; exact hl.1.symm) hown (hts _ kw_799) (hts _ kw_528) (hts _ kw_20) (hts _ kw_529) (Nat.le_of_ble_eq_true rfl) (Nat.le_of_ble_eq_true rfl) (Nat.le_of_ble_eq_true rfl) (Nat.le_of_ble_eq_true rfl) d_As_copyOf3_32 ?_
  refine W.eq (g2 := F0 m 35 ls [.int 10, .int 0, .ref q0, .int 0, .ref b]) rfl ?_
  refine va_copyq (C := R_Rec) (E0 := "java/lang/Object") (E1 := "java/lang/Object") hx hb (by rw [hml]; exact hl.1.symm) hown (hts _ kw_800) (hts _ kw_617) (hts _ kw_616) (hts _ kw_21) hK hP hD hS 0 11 4 4 rfl rfl rfl rfl (by decide) (by decide) (by decide) (by decide) (by decide) (fun i hi y hy => ?_) hasg9 (Nat.le_of_ble_eq_true rfl) (Nat.le_of_ble_eq_true rfl) d_As_copyOf3_35 (fun H locs hP hD hS => ?_)
  · replace hi : i < 10 := hi
    rcases (show i = 0 ∨ i = 1 ∨ i = 2 ∨ i = 3 ∨ i = 4 ∨ i = 5 ∨ i = 6 ∨ i = 7 ∨ i = 8 ∨ i = 9 by omega) with rfl | rfl | rfl | rfl | rfl | rfl | rfl | rfl | rfl | rfl
    · cases hy; exact va_recv (q := (R_Rec, F_Rec, 7)) hK hP rfl (q0 := 1) rfl
    · cases hy; exact va_recv (q := (R_Rec, F_Rec, 7)) hK hP rfl (q0 := 2) rfl
    · cases hy; exact va_recv (q := (R_Rec, F_Rec, 7)) hK hP rfl (q0 := 3) rfl
    · cases hy; exact va_recv (q := (R_Rec, F_Rec, 7)) hK hP rfl (q0 := 4) rfl
    · cases hy; exact va_recv (q := (R_Rec, F_Rec, 7)) hK hP rfl (q0 := 5) rfl
    · cases hy; exact va_recv (q := (R_Rec, F_Rec, 7)) hK hP rfl (q0 := 6) rfl
    · cases hy; exact va_recv (q := (R_Rec, F_Rec, 7)) hK hP rfl (q0 := 7) rfl
    · cases hy; exact va_recv (q := (R_Rec, F_Rec, 7)) hK hP rfl (q0 := 8) rfl
    · cases hy; exact va_recv (q := (R_Rec, F_Rec, 7)) hK hP rfl (q0 := 9) rfl
    · cases hy; exact va_recv (q := (R_Rec, F_Rec, 7)) hK hP rfl (q0 := 10) rfl
  skip
  replace hP : va_P D CL ([(b, .inl (k 4, 10, .inr (.inr (.inr (.inr (fun i => some (yT i))))))), ((yT 0), .inr (4, (vT 0))), ((yT 1), .inr (4, (vT 1))), ((yT 2), .inr (4, (vT 2))), ((yT 3), .inr (4, (vT 3))), ((yT 4), .inr (4, (vT 4))), ((yT 5), .inr (4, (vT 5))), ((yT 6), .inr (4, (vT 6))), ((yT 7), .inr (4, (vT 7))), ((yT 8), .inr (4, (vT 8))), ((yT 9), .inr (4, (vT 9))), (q0, .inl (k 4, 15, .inr (.inr (.inr (.inr (va_cpy (fun i => some (yT i)) (fun _ => none) 0 0 10))))))]) H := hP
  replace hD : va_D A ([(b, .inl (k 4, 10, .inr (.inr (.inr (.inr (fun i => some (yT i))))))), ((yT 0), .inr (4, (vT 0))), ((yT 1), .inr (4, (vT 1))), ((yT 2), .inr (4, (vT 2))), ((yT 3), .inr (4, (vT 3))), ((yT 4), .inr (4, (vT 4))), ((yT 5), .inr (4, (vT 5))), ((yT 6), .inr (4, (vT 6))), ((yT 7), .inr (4, (vT 7))), ((yT 8), .inr (4, (vT 8))), ((yT 9), .inr (4, (vT 9))), (q0, .inl (k 4, 15, .inr (.inr (.inr (.inr (va_cpy (fun i => some (yT i)) (fun _ => none) 0 0 10))))))]) := hD
  refine lv_aload_n hx hb d_As_copyOf3_38 rfl (lv_at hl 0 rfl) ?_
  refine retX_q (u := q0) (wf := fun u : Nat => [(u, .inl (k 4, 15, .inr (.inr (.inr (.inr (va_cpy (fun i => some (yT i)) (fun _ => none) 0 0 10)))))), ((yT 0), .inr (4, (vT 0))), ((yT 1), .inr (4, (vT 1))), ((yT 2), .inr (4, (vT 2))), ((yT 3), .inr (4, (vT 3))), ((yT 4), .inr (4, (vT 4))), ((yT 5), .inr (4, (vT 5))), ((yT 6), .inr (4, (vT 6))), ((yT 7), .inr (4, (vT 7))), ((yT 8), .inr (4, (vT 8))), ((yT 9), .inr (4, (vT 9)))]) C (hP.sub [11, 1, 2, 3, 4, 5, 6, 7, 8, 9, 10] rfl) (hD.sub [11, 1, 2, 3, 4, 5, 6, 7, 8, 9, 10] (by decide) rfl) hS (Nat.le_of_ble_eq_true rfl) (Nat.le_of_ble_eq_true rfl) rfl d_As_copyOf3_39
abbrev b_As_copyOf2 : ByteArray := prog_27_method_119_code
def y_As_copyOf2 : MethodName := ⟨"java/util/Arrays", "copyOf", "([Ljava/lang/Object;I)[Ljava/lang/Object;"⟩
theorem d_As_copyOf2_0 : decode b_As_copyOf2 0 = .ok (.aload_n 0, 1) := by decide +kernel
theorem d_As_copyOf2_1 : decode b_As_copyOf2 1 = .ok (.iload_n 1, 1) := by decide +kernel
theorem d_As_copyOf2_2 : decode b_As_copyOf2 2 = .ok (.aload_n 0, 1) := by decide +kernel
theorem d_As_copyOf2_3 : decode b_As_copyOf2 3 = .ok (.invokevirtual 86, 3) := by decide +kernel
theorem d_As_copyOf2_6 : decode b_As_copyOf2 6 = .ok (.invokestatic 300, 3) := by decide +kernel
theorem d_As_copyOf2_9 : decode b_As_copyOf2 9 = .ok (.areturn, 1) := by decide +kernel
theorem hd_As_copyOf2 : y_As_copyOf2.cls = "java/util/Arrays" ∧ y_As_copyOf2.cls ≠ "java/lang/invoke/MethodHandle" ∧ y_As_copyOf2.cls ≠ "java/lang/invoke/VarHandle" ∧ (parseMethodDescriptor y_As_copyOf2.desc).map (fun d => d.parameters.length) = some 2 := by decide +kernel
abbrev rm_As_copyOf2 : Room := { frames := 3, cells := 1, slots := 15, locals := 83 }
set_option maxHeartbeats 4000000 in
set_option maxRecDepth 100000 in
theorem m_As_copyOf2 {l : Launch} {D : va_G} {k : Nat → ClassId} (b : Nat) (yT : Nat → Nat) (vT : Nat → List Value) : CX l D k y_As_copyOf2 b_As_copyOf2 2 (some (.array (.object "java/lang/Object"))) rm_As_copyOf2 [.ref b, .int 15] [(b, .inl (k 4, 10, .inr (.inr (.inr (.inr (fun i => some (yT i))))))), ((yT 0), .inr (4, (vT 0))), ((yT 1), .inr (4, (vT 1))), ((yT 2), .inr (4, (vT 2))), ((yT 3), .inr (4, (vT 3))), ((yT 4), .inr (4, (vT 4))), ((yT 5), .inr (4, (vT 5))), ((yT 6), .inr (4, (vT 6))), ((yT 7), .inr (4, (vT 7))), ((yT 8), .inr (4, (vT 8))), ((yT 9), .inr (4, (vT 9)))] (fun u : Nat => [(u, .inl (k 4, 15, .inr (.inr (.inr (.inr (va_cpy (fun i => some (yT i)) (fun _ => none) 0 0 10)))))), ((yT 0), .inr (4, (vT 0))), ((yT 1), .inr (4, (vT 1))), ((yT 2), .inr (4, (vT 2))), ((yT 3), .inr (4, (vT 3))), ((yT 4), .inr (4, (vT 4))), ((yT 5), .inr (4, (vT 5))), ((yT 6), .inr (4, (vT 6))), ((yT 7), .inr (4, (vT 7))), ((yT 8), .inr (4, (vT 8))), ((yT 9), .inr (4, (vT 9)))]) (fun v (u : Nat) => v = some (.ref u)) (fun _ _ => False) := by
  refine CX.of (by decide) (Nat.le_of_ble_eq_true rfl) ?_
  intro p e s m below meth c A H locs ls C hX hcx hP hD hS hl
  obtain ⟨hx, hb, hr, hlk, hml, hown, hts, hK, hA⟩ := id C
  obtain ⟨t99, hZ99, hT99, hZ9, hT9, hM9⟩ := id hX.2
  replace hl : lv_has ls 2 [(0, .ref b), (1, .int 15)] := hl
  refine lv_aload_n hx hb d_As_copyOf2_0 rfl (lv_at hl 0 rfl) ?_
  refine lv_iload_n hx hb d_As_copyOf2_1 rfl (lv_at hl 1 rfl) ?_
  refine lv_aload_n hx hb d_As_copyOf2_2 rfl (lv_at hl 0 rfl) ?_
  refine va_getC (C := "[Ljava/lang/Object;") hx hb (by rw [hml]; exact hl.1.symm) hown (hts _ kw_775) (hX.1 s _ (State.WarmedH.refl s) (fun _ _ _ => rfl) _ (by decide +kernel)) (hts _ kw_1154) (hts _ kw_776) (hts _ kw_792) hM9 ⟨_, hP 0 _ rfl, rfl, va_nmO (hK.2 4 _ rfl).2 rfl⟩ (Nat.le_of_ble_eq_true rfl) (Nat.le_of_ble_eq_true rfl) d_As_copyOf2_3 ?_
  refine callXS (As := [.ref b, .int 15, .ref (D.1 11)]) (rest := []) C hX hS (Jn.part (wr := []) (wn := fun u0 : Nat => [(u0, .inl (k 4, 15, .inr (.inr (.inr (.inr (va_cpy (fun i => some (yT i)) (fun _ => none) 0 0 10)))))), ((yT 0), .inr (4, (vT 0))), ((yT 1), .inr (4, (vT 1))), ((yT 2), .inr (4, (vT 2))), ((yT 3), .inr (4, (vT 3))), ((yT 4), .inr (4, (vT 4))), ((yT 5), .inr (4, (vT 5))), ((yT 6), .inr (4, (vT 6))), ((yT 7), .inr (4, (vT 7))), ((yT 8), .inr (4, (vT 8))), ((yT 9), .inr (4, (vT 9)))]) hP hD hS hA [0, 1, 2, 3, 4, 5, 6, 7, 8, 9, 10] [] [0, 1, 2, 3, 4, 5, 6, 7, 8, 9, 10] rfl (by decide) rfl (by decide) (by decide) (fun _ => rfl) (by decide)) (m_As_copyOf3 b yT vT ) kw_793 kw_794 kw_3 kw_795 (hd_As_copyOf3).2 rfl ⟨(Nat.le_of_ble_eq_true rfl), (Nat.le_of_ble_eq_true rfl)⟩ ⟨(Nat.le_of_ble_eq_true rfl), (Nat.le_of_ble_eq_true rfl)⟩ hl.1 (Nat.le_of_ble_eq_true rfl) d_As_copyOf2_6 (fun v9 u0 H locs h9 hP hD hS => ?_) (fun q9 E9 u9 ce9 H locs h9 hP hD hS hce9 hcv9 hcl9 => h9.elim)
  obtain rfl := h9
  replace hP : va_P D CL ([(u0, .inl (k 4, 15, .inr (.inr (.inr (.inr (va_cpy (fun i => some (yT i)) (fun _ => none) 0 0 10)))))), ((yT 0), .inr (4, (vT 0))), ((yT 1), .inr (4, (vT 1))), ((yT 2), .inr (4, (vT 2))), ((yT 3), .inr (4, (vT 3))), ((yT 4), .inr (4, (vT 4))), ((yT 5), .inr (4, (vT 5))), ((yT 6), .inr (4, (vT 6))), ((yT 7), .inr (4, (vT 7))), ((yT 8), .inr (4, (vT 8))), ((yT 9), .inr (4, (vT 9)))]) H := hP
  replace hD : va_D A ([(u0, .inl (k 4, 15, .inr (.inr (.inr (.inr (va_cpy (fun i => some (yT i)) (fun _ => none) 0 0 10)))))), ((yT 0), .inr (4, (vT 0))), ((yT 1), .inr (4, (vT 1))), ((yT 2), .inr (4, (vT 2))), ((yT 3), .inr (4, (vT 3))), ((yT 4), .inr (4, (vT 4))), ((yT 5), .inr (4, (vT 5))), ((yT 6), .inr (4, (vT 6))), ((yT 7), .inr (4, (vT 7))), ((yT 8), .inr (4, (vT 8))), ((yT 9), .inr (4, (vT 9)))]) := hD
  refine W.eq (g2 := F0 m 9 ls [.ref u0]) rfl ?_
  refine retX_q (u := u0) (wf := fun u : Nat => [(u, .inl (k 4, 15, .inr (.inr (.inr (.inr (va_cpy (fun i => some (yT i)) (fun _ => none) 0 0 10)))))), ((yT 0), .inr (4, (vT 0))), ((yT 1), .inr (4, (vT 1))), ((yT 2), .inr (4, (vT 2))), ((yT 3), .inr (4, (vT 3))), ((yT 4), .inr (4, (vT 4))), ((yT 5), .inr (4, (vT 5))), ((yT 6), .inr (4, (vT 6))), ((yT 7), .inr (4, (vT 7))), ((yT 8), .inr (4, (vT 8))), ((yT 9), .inr (4, (vT 9)))]) C (hP.sub [0, 1, 2, 3, 4, 5, 6, 7, 8, 9, 10] rfl) (hD.sub [0, 1, 2, 3, 4, 5, 6, 7, 8, 9, 10] (by decide) rfl) hS (Nat.le_of_ble_eq_true rfl) (Nat.le_of_ble_eq_true rfl) rfl d_As_copyOf2_9
abbrev b_AL_grow1 : ByteArray := prog_26_method_6_code
def y_AL_grow1 : MethodName := ⟨"java/util/ArrayList", "grow", "(I)[Ljava/lang/Object;"⟩
theorem d_AL_grow1_0 : decode b_AL_grow1 0 = .ok (.aload_n 0, 1) := by decide +kernel
theorem d_AL_grow1_1 : decode b_AL_grow1 1 = .ok (.getfield 9, 3) := by decide +kernel
theorem d_AL_grow1_4 : decode b_AL_grow1 4 = .ok (.arraylength, 1) := by decide +kernel
theorem d_AL_grow1_5 : decode b_AL_grow1 5 = .ok (.istore_n 2, 1) := by decide +kernel
theorem d_AL_grow1_6 : decode b_AL_grow1 6 = .ok (.iload_n 2, 1) := by decide +kernel
theorem d_AL_grow1_7 : decode b_AL_grow1 7 = .ok (.ifCond .gt 13, 3) := by decide +kernel
theorem d_AL_grow1_10 : decode b_AL_grow1 10 = .ok (.aload_n 0, 1) := by decide +kernel
theorem d_AL_grow1_11 : decode b_AL_grow1 11 = .ok (.getfield 9, 3) := by decide +kernel
theorem d_AL_grow1_14 : decode b_AL_grow1 14 = .ok (.getstatic 39, 3) := by decide +kernel
theorem d_AL_grow1_17 : decode b_AL_grow1 17 = .ok (.if_acmp .eq 28, 3) := by decide +kernel
theorem d_AL_grow1_20 : decode b_AL_grow1 20 = .ok (.iload_n 2, 1) := by decide +kernel
theorem d_AL_grow1_21 : decode b_AL_grow1 21 = .ok (.iload_n 1, 1) := by decide +kernel
theorem d_AL_grow1_22 : decode b_AL_grow1 22 = .ok (.iload_n 2, 1) := by decide +kernel
theorem d_AL_grow1_23 : decode b_AL_grow1 23 = .ok (.isub, 1) := by decide +kernel
theorem d_AL_grow1_24 : decode b_AL_grow1 24 = .ok (.iload_n 2, 1) := by decide +kernel
theorem d_AL_grow1_25 : decode b_AL_grow1 25 = .ok (.iconst 1, 1) := by decide +kernel
theorem d_AL_grow1_26 : decode b_AL_grow1 26 = .ok (.ishr, 1) := by decide +kernel
theorem d_AL_grow1_27 : decode b_AL_grow1 27 = .ok (.invokestatic 73, 3) := by decide +kernel
theorem d_AL_grow1_30 : decode b_AL_grow1 30 = .ok (.istore_n 3, 1) := by decide +kernel
theorem d_AL_grow1_31 : decode b_AL_grow1 31 = .ok (.aload_n 0, 1) := by decide +kernel
theorem d_AL_grow1_32 : decode b_AL_grow1 32 = .ok (.aload_n 0, 1) := by decide +kernel
theorem d_AL_grow1_33 : decode b_AL_grow1 33 = .ok (.getfield 9, 3) := by decide +kernel
theorem d_AL_grow1_36 : decode b_AL_grow1 36 = .ok (.iload_n 3, 1) := by decide +kernel
theorem d_AL_grow1_37 : decode b_AL_grow1 37 = .ok (.invokestatic 66, 3) := by decide +kernel
theorem d_AL_grow1_40 : decode b_AL_grow1 40 = .ok (.dup_x1, 1) := by decide +kernel
theorem d_AL_grow1_41 : decode b_AL_grow1 41 = .ok (.putfield 9, 3) := by decide +kernel
theorem d_AL_grow1_44 : decode b_AL_grow1 44 = .ok (.areturn, 1) := by decide +kernel
theorem d_AL_grow1_45 : decode b_AL_grow1 45 = .ok (.aload_n 0, 1) := by decide +kernel
theorem d_AL_grow1_46 : decode b_AL_grow1 46 = .ok (.bipush 10, 2) := by decide +kernel
theorem d_AL_grow1_48 : decode b_AL_grow1 48 = .ok (.iload_n 1, 1) := by decide +kernel
theorem d_AL_grow1_49 : decode b_AL_grow1 49 = .ok (.invokestatic 79, 3) := by decide +kernel
theorem d_AL_grow1_52 : decode b_AL_grow1 52 = .ok (.anewarray 7, 3) := by decide +kernel
theorem d_AL_grow1_55 : decode b_AL_grow1 55 = .ok (.dup_x1, 1) := by decide +kernel
theorem d_AL_grow1_56 : decode b_AL_grow1 56 = .ok (.putfield 9, 3) := by decide +kernel
theorem d_AL_grow1_59 : decode b_AL_grow1 59 = .ok (.areturn, 1) := by decide +kernel
theorem hd_AL_grow1 : y_AL_grow1.cls = "java/util/ArrayList" ∧ y_AL_grow1.cls ≠ "java/lang/invoke/MethodHandle" ∧ y_AL_grow1.cls ≠ "java/lang/invoke/VarHandle" ∧ (parseMethodDescriptor y_AL_grow1.desc).map (fun d => d.parameters.length) = some 1 := by decide +kernel
abbrev rm_AL_grow1V0 : Room := { frames := 2, cells := 1, slots := 10, locals := 60 }
set_option maxHeartbeats 4000000 in
set_option maxRecDepth 100000 in
theorem m_AL_grow1V0 {l : Launch} {D : va_G} {k : Nat → ClassId} (a : Nat) (x0 : Int32) : CX l D k y_AL_grow1 b_AL_grow1 4 (some (.array (.object "java/lang/Object"))) rm_AL_grow1V0 [.ref a, .int 1] [(a, .inr (9, [.int x0, .ref (D.1 10), .int 0]))] (fun u : Nat => [(a, .inr (9, [.int x0, .ref u, .int 0])), (u, .inl (k 4, 10, .inr (.inr (.inr (.inr (fun _ => none))))))]) (fun v (u : Nat) => v = some (.ref u)) (fun _ _ => False) := by
  refine CX.of (by decide) (Nat.le_of_ble_eq_true rfl) ?_
  intro p e s m below meth c A H locs ls C hX hcx hP hD hS hl
  obtain ⟨hx, hb, hr, hlk, hml, hown, hts, hK, hA⟩ := id C
  obtain ⟨t99, hZ99, hT99, hZ9, hT9, hM9⟩ := id hX.2
  replace hl : lv_has ls 4 [(0, .ref a), (1, .int 1)] := hl
  refine lv_aload_n hx hb d_AL_grow1_0 rfl (lv_at hl 0 rfl) ?_
  refine va_get (D := D) (ci := 9) (v := .ref (D.1 10)) (C := R_AL) (T := F_AL) (N := 3) hx hb hts in_AL hown hK hP 0 rfl rfl 1 (by decide) (hts _ kw_224) (fun _ h9 => h9) rfl d_AL_grow1_1 ?_
  refine va_tlen (v := 0) hx hb hT9 hS rfl d_AL_grow1_4 ?_
  refine lv_istore_n (lv' := [(2, .int 0), (0, .ref a), (1, .int 1)]) hx hb d_AL_grow1_5 rfl hl (by decide) rfl (fun ls hl => ?_)
  refine lv_iload_n hx hb d_AL_grow1_6 rfl (lv_at hl 0 rfl) ?_
  refine lv_if_gt (tgt := 20) hx hb d_AL_grow1_7 (by decide) (fun c9 => absurd c9 (by decide)) (fun _ => ?_)
  refine lv_aload_n hx hb d_AL_grow1_10 rfl (lv_at hl 1 rfl) ?_
  refine va_get (D := D) (ci := 9) (v := .ref (D.1 10)) (C := R_AL) (T := F_AL) (N := 3) hx hb hts in_AL hown hK hP 0 rfl rfl 1 (by decide) (hts _ kw_224) (fun _ h9 => h9) rfl d_AL_grow1_11 ?_
  refine va_gets hx hb hZ9 hS hown (hts _ kw_222) (fun _ h => h) d_AL_grow1_14 ?_
  refine lv_acmp_eq (rx := some (D.1 10)) (ry := some (D.1 10)) (tgt := 45) hx hb d_AL_grow1_17 (by decide) (fun _ => ?_) (fun c9 => absurd rfl c9)
  refine lv_aload_n hx hb d_AL_grow1_45 rfl (lv_at hl 1 rfl) ?_
  refine lv_bipush (v := 10) hx hb d_AL_grow1_46 (by decide) ?_
  refine lv_iload_n hx hb d_AL_grow1_48 rfl (lv_at hl 2 rfl) ?_
  refine va_mmax (R := rm_AL_grow1V0) (rest := [.ref a]) hx hb (by rw [hml]; exact hl.1.symm) hown (hts _ kw_801) (hts _ kw_766) (hts _ kw_20) (hts _ kw_767) (Nat.le_of_ble_eq_true rfl) (Nat.le_of_ble_eq_true rfl) (Nat.le_of_ble_eq_true rfl) (Nat.le_of_ble_eq_true rfl) d_AL_grow1_49 ?_
  refine W.eq (g2 := F0 m 52 ls [.int 10, .ref a]) rfl ?_
  refine new_q (Cn := "java/lang/Object") (N' := 10) C hX hP hD hS 4 rfl kw_802 (by decide +kernel) (by decide) (by decide) (by decide) (Nat.le_of_ble_eq_true rfl) (Nat.le_of_ble_eq_true rfl) d_AL_grow1_52 (fun q0 H hP hD hS => ?_)
  replace hP : va_P D CL ([(a, .inr (9, [.int x0, .ref (D.1 10), .int 0])), (q0, .inl (k 4, 10, .inr (.inr (.inr (.inr (fun _ => none))))))]) H := hP
  replace hD : va_D A ([(a, .inr (9, [.int x0, .ref (D.1 10), .int 0])), (q0, .inl (k 4, 10, .inr (.inr (.inr (.inr (fun _ => none))))))]) := hD
  refine lv_dup_x1 hx hb d_AL_grow1_55 rfl rfl ?_
  refine va_put (D := D) (ci := 9) (v := .ref q0) (ty := .array (.object "java/lang/Object")) (C := R_AL) (T := F_AL) (N := 3) hx hb hts in_AL t_AL tt_AL n_AL hown hK hP hD hS 0 rfl rfl 1 (by decide) (hts _ kw_224) (fun _ h9 => h9) rfl (by decide +kernel) rfl rfl (Nat.le_of_ble_eq_true rfl) d_AL_grow1_56 (fun H locs hP hD hS => ?_)
  replace hP : va_P D CL ([(a, .inr (9, [.int x0, .ref q0, .int 0])), (q0, .inl (k 4, 10, .inr (.inr (.inr (.inr (fun _ => none))))))]) H := hP
  replace hD : va_D A ([(a, .inr (9, [.int x0, .ref q0, .int 0])), (q0, .inl (k 4, 10, .inr (.inr (.inr (.inr (fun _ => none))))))]) := hD
  refine retX_q (u := q0) (wf := fun u : Nat => [(a, .inr (9, [.int x0, .ref u, .int 0])), (u, .inl (k 4, 10, .inr (.inr (.inr (.inr (fun _ => none))))))]) C (hP.sub [0, 1] rfl) (hD.sub [0, 1] (by decide) rfl) hS (Nat.le_of_ble_eq_true rfl) (Nat.le_of_ble_eq_true rfl) rfl d_AL_grow1_59
abbrev b_AL_grow0 : ByteArray := prog_26_method_7_code
def y_AL_grow0 : MethodName := ⟨"java/util/ArrayList", "grow", "()[Ljava/lang/Object;"⟩
theorem d_AL_grow0_0 : decode b_AL_grow0 0 = .ok (.aload_n 0, 1) := by decide +kernel
theorem d_AL_grow0_1 : decode b_AL_grow0 1 = .ok (.aload_n 0, 1) := by decide +kernel
theorem d_AL_grow0_2 : decode b_AL_grow0 2 = .ok (.getfield 48, 3) := by decide +kernel
theorem d_AL_grow0_5 : decode b_AL_grow0 5 = .ok (.iconst 1, 1) := by decide +kernel
theorem d_AL_grow0_6 : decode b_AL_grow0 6 = .ok (.iadd, 1) := by decide +kernel
theorem d_AL_grow0_7 : decode b_AL_grow0 7 = .ok (.invokevirtual 69, 3) := by decide +kernel
theorem d_AL_grow0_10 : decode b_AL_grow0 10 = .ok (.areturn, 1) := by decide +kernel
theorem hd_AL_grow0 : y_AL_grow0.cls = "java/util/ArrayList" ∧ y_AL_grow0.cls ≠ "java/lang/invoke/MethodHandle" ∧ y_AL_grow0.cls ≠ "java/lang/invoke/VarHandle" ∧ (parseMethodDescriptor y_AL_grow0.desc).map (fun d => d.parameters.length) = some 0 := by decide +kernel
abbrev rm_AL_grow0V0 : Room := { frames := 3, cells := 1, slots := 10, locals := 83 }
set_option maxHeartbeats 4000000 in
set_option maxRecDepth 100000 in
theorem m_AL_grow0V0 {l : Launch} {D : va_G} {k : Nat → ClassId} (a : Nat) (x0 : Int32) : CX l D k y_AL_grow0 b_AL_grow0 1 (some (.array (.object "java/lang/Object"))) rm_AL_grow0V0 [.ref a] [(a, .inr (9, [.int x0, .ref (D.1 10), .int 0]))] (fun u : Nat => [(a, .inr (9, [.int x0, .ref u, .int 0])), (u, .inl (k 4, 10, .inr (.inr (.inr (.inr (fun _ => none))))))]) (fun v (u : Nat) => v = some (.ref u)) (fun _ _ => False) := by
  refine CX.of (by decide) (Nat.le_of_ble_eq_true rfl) ?_
  intro p e s m below meth c A H locs ls C hX hcx hP hD hS hl
  obtain ⟨hx, hb, hr, hlk, hml, hown, hts, hK, hA⟩ := id C
  obtain ⟨t99, hZ99, hT99, hZ9, hT9, hM9⟩ := id hX.2
  replace hl : lv_has ls 1 [(0, .ref a)] := hl
  refine lv_aload_n hx hb d_AL_grow0_0 rfl (lv_at hl 0 rfl) ?_
  refine lv_aload_n hx hb d_AL_grow0_1 rfl (lv_at hl 0 rfl) ?_
  refine va_get (D := D) (ci := 9) (v := .int 0) (C := R_AL) (T := F_AL) (N := 3) hx hb hts in_AL hown hK hP 0 rfl rfl 2 (by decide) (hts _ kw_225) (fun _ h9 => h9) rfl d_AL_grow0_2 ?_
  refine lv_iconst (v := 1) hx hb d_AL_grow0_5 (by decide) ?_
  refine lv_iadd hx hb d_AL_grow0_6 ?_
  refine W.eq (g2 := F0 m 7 ls [.int 1, .ref a]) rfl ?_
  refine callXV (As := [.int 1]) (rest := []) C hX hS (Jn.part (wr := []) (wn := fun u0 : Nat => [(a, .inr (9, [.int x0, .ref u0, .int 0])), (u0, .inl (k 4, 10, .inr (.inr (.inr (.inr (fun _ => none))))))]) hP hD hS hA [0] [] [0, 1] rfl (by decide) rfl (by decide) (by decide) (fun _ => rfl) (by decide)) (m_AL_grow1V0 a x0 ) kw_758 kw_760 kp_23 kw_11 kw_761 hd_AL_grow1 0 rfl rfl rfl rfl ⟨(Nat.le_of_ble_eq_true rfl), (Nat.le_of_ble_eq_true rfl)⟩ ⟨(Nat.le_of_ble_eq_true rfl), (Nat.le_of_ble_eq_true rfl)⟩ hl.1 (Nat.le_of_ble_eq_true rfl) d_AL_grow0_7 (fun v9 u0 H locs h9 hP hD hS => ?_) (fun q9 E9 u9 ce9 H locs h9 hP hD hS hce9 hcv9 hcl9 => h9.elim)
  obtain rfl := h9
  replace hP : va_P D CL ([(a, .inr (9, [.int x0, .ref u0, .int 0])), (u0, .inl (k 4, 10, .inr (.inr (.inr (.inr (fun _ => none))))))]) H := hP
  replace hD : va_D A ([(a, .inr (9, [.int x0, .ref u0, .int 0])), (u0, .inl (k 4, 10, .inr (.inr (.inr (.inr (fun _ => none))))))]) := hD
  refine W.eq (g2 := F0 m 10 ls [.ref u0]) rfl ?_
  refine retX_q (u := u0) (wf := fun u : Nat => [(a, .inr (9, [.int x0, .ref u, .int 0])), (u, .inl (k 4, 10, .inr (.inr (.inr (.inr (fun _ => none))))))]) C (hP.sub [0, 1] rfl) (hD.sub [0, 1] (by decide) rfl) hS (Nat.le_of_ble_eq_true rfl) (Nat.le_of_ble_eq_true rfl) rfl d_AL_grow0_10
abbrev rm_AL_grow1V2 : Room := { frames := 4, cells := 1, slots := 15, locals := 104 }
set_option maxHeartbeats 4000000 in
set_option maxRecDepth 100000 in
theorem m_AL_grow1V2 {l : Launch} {D : va_G} {k : Nat → ClassId} (a : Nat) (x0 : Int32) (b : Nat) (yT : Nat → Nat) (vT : Nat → List Value) : CX l D k y_AL_grow1 b_AL_grow1 4 (some (.array (.object "java/lang/Object"))) rm_AL_grow1V2 [.ref a, .int 11] [(a, .inr (9, [.int x0, .ref b, .int 10])), (b, .inl (k 4, 10, .inr (.inr (.inr (.inr (fun i => some (yT i))))))), ((yT 0), .inr (4, (vT 0))), ((yT 1), .inr (4, (vT 1))), ((yT 2), .inr (4, (vT 2))), ((yT 3), .inr (4, (vT 3))), ((yT 4), .inr (4, (vT 4))), ((yT 5), .inr (4, (vT 5))), ((yT 6), .inr (4, (vT 6))), ((yT 7), .inr (4, (vT 7))), ((yT 8), .inr (4, (vT 8))), ((yT 9), .inr (4, (vT 9)))] (fun u : Nat => [(a, .inr (9, [.int x0, .ref u, .int 10])), (u, .inl (k 4, 15, .inr (.inr (.inr (.inr (va_cpy (fun i => some (yT i)) (fun _ => none) 0 0 10)))))), ((yT 0), .inr (4, (vT 0))), ((yT 1), .inr (4, (vT 1))), ((yT 2), .inr (4, (vT 2))), ((yT 3), .inr (4, (vT 3))), ((yT 4), .inr (4, (vT 4))), ((yT 5), .inr (4, (vT 5))), ((yT 6), .inr (4, (vT 6))), ((yT 7), .inr (4, (vT 7))), ((yT 8), .inr (4, (vT 8))), ((yT 9), .inr (4, (vT 9)))]) (fun v (u : Nat) => v = some (.ref u)) (fun _ _ => False) := by
  refine CX.of (by decide) (Nat.le_of_ble_eq_true rfl) ?_
  intro p e s m below meth c A H locs ls C hX hcx hP hD hS hl
  obtain ⟨hx, hb, hr, hlk, hml, hown, hts, hK, hA⟩ := id C
  obtain ⟨t99, hZ99, hT99, hZ9, hT9, hM9⟩ := id hX.2
  replace hl : lv_has ls 4 [(0, .ref a), (1, .int 11)] := hl
  refine lv_aload_n hx hb d_AL_grow1_0 rfl (lv_at hl 0 rfl) ?_
  refine va_get (D := D) (ci := 9) (v := .ref b) (C := R_AL) (T := F_AL) (N := 3) hx hb hts in_AL hown hK hP 0 rfl rfl 1 (by decide) (hts _ kw_224) (fun _ h9 => h9) rfl d_AL_grow1_1 ?_
  refine va_alen (v := 10) hx hb hK hP 1 4 rfl rfl rfl d_AL_grow1_4 ?_
  refine lv_istore_n (lv' := [(2, .int 10), (0, .ref a), (1, .int 11)]) hx hb d_AL_grow1_5 rfl hl (by decide) rfl (fun ls hl => ?_)
  refine lv_iload_n hx hb d_AL_grow1_6 rfl (lv_at hl 0 rfl) ?_
  refine lv_if_gt (tgt := 20) hx hb d_AL_grow1_7 (by decide) (fun _ => ?_) (fun c9 => absurd (by decide) c9)
  refine lv_iload_n hx hb d_AL_grow1_20 rfl (lv_at hl 0 rfl) ?_
  refine lv_iload_n hx hb d_AL_grow1_21 rfl (lv_at hl 2 rfl) ?_
  refine lv_iload_n hx hb d_AL_grow1_22 rfl (lv_at hl 0 rfl) ?_
  refine lv_isub hx hb d_AL_grow1_23 ?_
  refine W.eq (g2 := F0 m 24 ls [.int 1, .int 10]) rfl ?_
  refine lv_iload_n hx hb d_AL_grow1_24 rfl (lv_at hl 0 rfl) ?_
  refine lv_iconst (v := 1) hx hb d_AL_grow1_25 (by decide) ?_
  refine lv_ishr hx hb d_AL_grow1_26 ?_
  refine W.eq (g2 := F0 m 27 ls [.int 5, .int 1, .int 10]) rfl ?_
  refine callXS (As := [.int 10, .int 1, .int 5]) (rest := []) C hX hS (Jn.part (wr := [(a, .inr (9, [.int x0, .ref b, .int 10])), (b, .inl (k 4, 10, .inr (.inr (.inr (.inr (fun i => some (yT i))))))), ((yT 0), .inr (4, (vT 0))), ((yT 1), .inr (4, (vT 1))), ((yT 2), .inr (4, (vT 2))), ((yT 3), .inr (4, (vT 3))), ((yT 4), .inr (4, (vT 4))), ((yT 5), .inr (4, (vT 5))), ((yT 6), .inr (4, (vT 6))), ((yT 7), .inr (4, (vT 7))), ((yT 8), .inr (4, (vT 8))), ((yT 9), .inr (4, (vT 9)))]) (wn := fun u0 : Unit => [(a, .inr (9, [.int x0, .ref b, .int 10])), (b, .inl (k 4, 10, .inr (.inr (.inr (.inr (fun i => some (yT i))))))), ((yT 0), .inr (4, (vT 0))), ((yT 1), .inr (4, (vT 1))), ((yT 2), .inr (4, (vT 2))), ((yT 3), .inr (4, (vT 3))), ((yT 4), .inr (4, (vT 4))), ((yT 5), .inr (4, (vT 5))), ((yT 6), .inr (4, (vT 6))), ((yT 7), .inr (4, (vT 7))), ((yT 8), .inr (4, (vT 8))), ((yT 9), .inr (4, (vT 9)))]) hP hD hS hA [] [0, 1, 2, 3, 4, 5, 6, 7, 8, 9, 10, 11] [0, 1, 2, 3, 4, 5, 6, 7, 8, 9, 10, 11] rfl (by decide) rfl (by decide) (by decide) (fun _ => rfl) (by decide)) (m_AS_newLength ) kw_762 kw_763 kw_23 kw_764 (hd_AS_newLength).2 rfl ⟨(Nat.le_of_ble_eq_true rfl), (Nat.le_of_ble_eq_true rfl)⟩ ⟨(Nat.le_of_ble_eq_true rfl), (Nat.le_of_ble_eq_true rfl)⟩ hl.1 (Nat.le_of_ble_eq_true rfl) d_AL_grow1_27 (fun v9 u0 H locs h9 hP hD hS => ?_) (fun q9 E9 u9 ce9 H locs h9 hP hD hS hce9 hcv9 hcl9 => h9.elim)
  obtain rfl := h9
  replace hP : va_P D CL ([(a, .inr (9, [.int x0, .ref b, .int 10])), (b, .inl (k 4, 10, .inr (.inr (.inr (.inr (fun i => some (yT i))))))), ((yT 0), .inr (4, (vT 0))), ((yT 1), .inr (4, (vT 1))), ((yT 2), .inr (4, (vT 2))), ((yT 3), .inr (4, (vT 3))), ((yT 4), .inr (4, (vT 4))), ((yT 5), .inr (4, (vT 5))), ((yT 6), .inr (4, (vT 6))), ((yT 7), .inr (4, (vT 7))), ((yT 8), .inr (4, (vT 8))), ((yT 9), .inr (4, (vT 9)))]) H := hP
  replace hD : va_D A ([(a, .inr (9, [.int x0, .ref b, .int 10])), (b, .inl (k 4, 10, .inr (.inr (.inr (.inr (fun i => some (yT i))))))), ((yT 0), .inr (4, (vT 0))), ((yT 1), .inr (4, (vT 1))), ((yT 2), .inr (4, (vT 2))), ((yT 3), .inr (4, (vT 3))), ((yT 4), .inr (4, (vT 4))), ((yT 5), .inr (4, (vT 5))), ((yT 6), .inr (4, (vT 6))), ((yT 7), .inr (4, (vT 7))), ((yT 8), .inr (4, (vT 8))), ((yT 9), .inr (4, (vT 9)))]) := hD
  refine W.eq (g2 := F0 m 30 ls [.int 15]) rfl ?_
  refine lv_istore_n (lv' := [(3, .int 15), (2, .int 10), (0, .ref a), (1, .int 11)]) hx hb d_AL_grow1_30 rfl hl (by decide) rfl (fun ls hl => ?_)
  refine lv_aload_n hx hb d_AL_grow1_31 rfl (lv_at hl 2 rfl) ?_
  refine lv_aload_n hx hb d_AL_grow1_32 rfl (lv_at hl 2 rfl) ?_
  refine va_get (D := D) (ci := 9) (v := .ref b) (C := R_AL) (T := F_AL) (N := 3) hx hb hts in_AL hown hK hP 0 rfl rfl 1 (by decide) (hts _ kw_224) (fun _ h9 => h9) rfl d_AL_grow1_33 ?_
  refine lv_iload_n hx hb d_AL_grow1_36 rfl (lv_at hl 0 rfl) ?_
  refine callXS (As := [.ref b, .int 15]) (rest := [.ref a]) C hX hS (Jn.part (wr := [(a, .inr (9, [.int x0, .ref b, .int 10]))]) (wn := fun u1 : Nat => [(a, .inr (9, [.int x0, .ref b, .int 10])), (u1, .inl (k 4, 15, .inr (.inr (.inr (.inr (va_cpy (fun i => some (yT i)) (fun _ => none) 0 0 10)))))), ((yT 0), .inr (4, (vT 0))), ((yT 1), .inr (4, (vT 1))), ((yT 2), .inr (4, (vT 2))), ((yT 3), .inr (4, (vT 3))), ((yT 4), .inr (4, (vT 4))), ((yT 5), .inr (4, (vT 5))), ((yT 6), .inr (4, (vT 6))), ((yT 7), .inr (4, (vT 7))), ((yT 8), .inr (4, (vT 8))), ((yT 9), .inr (4, (vT 9)))]) hP hD hS hA [1, 2, 3, 4, 5, 6, 7, 8, 9, 10, 11] [0] [0, 1, 2, 3, 4, 5, 6, 7, 8, 9, 10, 11] rfl (by decide) rfl (by decide) (by decide) (fun _ => rfl) (by decide)) (m_As_copyOf2 b yT vT ) kw_772 kw_773 kw_3 kw_774 (hd_As_copyOf2).2 rfl ⟨(Nat.le_of_ble_eq_true rfl), (Nat.le_of_ble_eq_true rfl)⟩ ⟨(Nat.le_of_ble_eq_true rfl), (Nat.le_of_ble_eq_true rfl)⟩ hl.1 (Nat.le_of_ble_eq_true rfl) d_AL_grow1_37 (fun v9 u1 H locs h9 hP hD hS => ?_) (fun q9 E9 u9 ce9 H locs h9 hP hD hS hce9 hcv9 hcl9 => h9.elim)
  obtain rfl := h9
  replace hP : va_P D CL ([(a, .inr (9, [.int x0, .ref b, .int 10])), (u1, .inl (k 4, 15, .inr (.inr (.inr (.inr (va_cpy (fun i => some (yT i)) (fun _ => none) 0 0 10)))))), ((yT 0), .inr (4, (vT 0))), ((yT 1), .inr (4, (vT 1))), ((yT 2), .inr (4, (vT 2))), ((yT 3), .inr (4, (vT 3))), ((yT 4), .inr (4, (vT 4))), ((yT 5), .inr (4, (vT 5))), ((yT 6), .inr (4, (vT 6))), ((yT 7), .inr (4, (vT 7))), ((yT 8), .inr (4, (vT 8))), ((yT 9), .inr (4, (vT 9)))]) H := hP
  replace hD : va_D A ([(a, .inr (9, [.int x0, .ref b, .int 10])), (u1, .inl (k 4, 15, .inr (.inr (.inr (.inr (va_cpy (fun i => some (yT i)) (fun _ => none) 0 0 10)))))), ((yT 0), .inr (4, (vT 0))), ((yT 1), .inr (4, (vT 1))), ((yT 2), .inr (4, (vT 2))), ((yT 3), .inr (4, (vT 3))), ((yT 4), .inr (4, (vT 4))), ((yT 5), .inr (4, (vT 5))), ((yT 6), .inr (4, (vT 6))), ((yT 7), .inr (4, (vT 7))), ((yT 8), .inr (4, (vT 8))), ((yT 9), .inr (4, (vT 9)))]) := hD
  refine W.eq (g2 := F0 m 40 ls [.ref u1, .ref a]) rfl ?_
  refine lv_dup_x1 hx hb d_AL_grow1_40 rfl rfl ?_
  refine va_put (D := D) (ci := 9) (v := .ref u1) (ty := .array (.object "java/lang/Object")) (C := R_AL) (T := F_AL) (N := 3) hx hb hts in_AL t_AL tt_AL n_AL hown hK hP hD hS 0 rfl rfl 1 (by decide) (hts _ kw_224) (fun _ h9 => h9) rfl (by decide +kernel) rfl rfl (Nat.le_of_ble_eq_true rfl) d_AL_grow1_41 (fun H locs hP hD hS => ?_)
  replace hP : va_P D CL ([(a, .inr (9, [.int x0, .ref u1, .int 10])), (u1, .inl (k 4, 15, .inr (.inr (.inr (.inr (va_cpy (fun i => some (yT i)) (fun _ => none) 0 0 10)))))), ((yT 0), .inr (4, (vT 0))), ((yT 1), .inr (4, (vT 1))), ((yT 2), .inr (4, (vT 2))), ((yT 3), .inr (4, (vT 3))), ((yT 4), .inr (4, (vT 4))), ((yT 5), .inr (4, (vT 5))), ((yT 6), .inr (4, (vT 6))), ((yT 7), .inr (4, (vT 7))), ((yT 8), .inr (4, (vT 8))), ((yT 9), .inr (4, (vT 9)))]) H := hP
  replace hD : va_D A ([(a, .inr (9, [.int x0, .ref u1, .int 10])), (u1, .inl (k 4, 15, .inr (.inr (.inr (.inr (va_cpy (fun i => some (yT i)) (fun _ => none) 0 0 10)))))), ((yT 0), .inr (4, (vT 0))), ((yT 1), .inr (4, (vT 1))), ((yT 2), .inr (4, (vT 2))), ((yT 3), .inr (4, (vT 3))), ((yT 4), .inr (4, (vT 4))), ((yT 5), .inr (4, (vT 5))), ((yT 6), .inr (4, (vT 6))), ((yT 7), .inr (4, (vT 7))), ((yT 8), .inr (4, (vT 8))), ((yT 9), .inr (4, (vT 9)))]) := hD
  refine retX_q (u := u1) (wf := fun u : Nat => [(a, .inr (9, [.int x0, .ref u, .int 10])), (u, .inl (k 4, 15, .inr (.inr (.inr (.inr (va_cpy (fun i => some (yT i)) (fun _ => none) 0 0 10)))))), ((yT 0), .inr (4, (vT 0))), ((yT 1), .inr (4, (vT 1))), ((yT 2), .inr (4, (vT 2))), ((yT 3), .inr (4, (vT 3))), ((yT 4), .inr (4, (vT 4))), ((yT 5), .inr (4, (vT 5))), ((yT 6), .inr (4, (vT 6))), ((yT 7), .inr (4, (vT 7))), ((yT 8), .inr (4, (vT 8))), ((yT 9), .inr (4, (vT 9)))]) C (hP.sub [0, 1, 2, 3, 4, 5, 6, 7, 8, 9, 10, 11] rfl) (hD.sub [0, 1, 2, 3, 4, 5, 6, 7, 8, 9, 10, 11] (by decide) rfl) hS (Nat.le_of_ble_eq_true rfl) (Nat.le_of_ble_eq_true rfl) rfl d_AL_grow1_44
abbrev rm_AL_grow0V2 : Room := { frames := 5, cells := 1, slots := 15, locals := 127 }
set_option maxHeartbeats 4000000 in
set_option maxRecDepth 100000 in
theorem m_AL_grow0V2 {l : Launch} {D : va_G} {k : Nat → ClassId} (a : Nat) (x0 : Int32) (b : Nat) (yT : Nat → Nat) (vT : Nat → List Value) : CX l D k y_AL_grow0 b_AL_grow0 1 (some (.array (.object "java/lang/Object"))) rm_AL_grow0V2 [.ref a] [(a, .inr (9, [.int x0, .ref b, .int 10])), (b, .inl (k 4, 10, .inr (.inr (.inr (.inr (fun i => some (yT i))))))), ((yT 0), .inr (4, (vT 0))), ((yT 1), .inr (4, (vT 1))), ((yT 2), .inr (4, (vT 2))), ((yT 3), .inr (4, (vT 3))), ((yT 4), .inr (4, (vT 4))), ((yT 5), .inr (4, (vT 5))), ((yT 6), .inr (4, (vT 6))), ((yT 7), .inr (4, (vT 7))), ((yT 8), .inr (4, (vT 8))), ((yT 9), .inr (4, (vT 9)))] (fun u : Nat => [(a, .inr (9, [.int x0, .ref u, .int 10])), (u, .inl (k 4, 15, .inr (.inr (.inr (.inr (va_cpy (fun i => some (yT i)) (fun _ => none) 0 0 10)))))), ((yT 0), .inr (4, (vT 0))), ((yT 1), .inr (4, (vT 1))), ((yT 2), .inr (4, (vT 2))), ((yT 3), .inr (4, (vT 3))), ((yT 4), .inr (4, (vT 4))), ((yT 5), .inr (4, (vT 5))), ((yT 6), .inr (4, (vT 6))), ((yT 7), .inr (4, (vT 7))), ((yT 8), .inr (4, (vT 8))), ((yT 9), .inr (4, (vT 9)))]) (fun v (u : Nat) => v = some (.ref u)) (fun _ _ => False) := by
  refine CX.of (by decide) (Nat.le_of_ble_eq_true rfl) ?_
  intro p e s m below meth c A H locs ls C hX hcx hP hD hS hl
  obtain ⟨hx, hb, hr, hlk, hml, hown, hts, hK, hA⟩ := id C
  obtain ⟨t99, hZ99, hT99, hZ9, hT9, hM9⟩ := id hX.2
  replace hl : lv_has ls 1 [(0, .ref a)] := hl
  refine lv_aload_n hx hb d_AL_grow0_0 rfl (lv_at hl 0 rfl) ?_
  refine lv_aload_n hx hb d_AL_grow0_1 rfl (lv_at hl 0 rfl) ?_
  refine va_get (D := D) (ci := 9) (v := .int 10) (C := R_AL) (T := F_AL) (N := 3) hx hb hts in_AL hown hK hP 0 rfl rfl 2 (by decide) (hts _ kw_225) (fun _ h9 => h9) rfl d_AL_grow0_2 ?_
  refine lv_iconst (v := 1) hx hb d_AL_grow0_5 (by decide) ?_
  refine lv_iadd hx hb d_AL_grow0_6 ?_
  refine W.eq (g2 := F0 m 7 ls [.int 11, .ref a]) rfl ?_
  refine callXV (As := [.int 11]) (rest := []) C hX hS (Jn.part (wr := []) (wn := fun u0 : Nat => [(a, .inr (9, [.int x0, .ref u0, .int 10])), (u0, .inl (k 4, 15, .inr (.inr (.inr (.inr (va_cpy (fun i => some (yT i)) (fun _ => none) 0 0 10)))))), ((yT 0), .inr (4, (vT 0))), ((yT 1), .inr (4, (vT 1))), ((yT 2), .inr (4, (vT 2))), ((yT 3), .inr (4, (vT 3))), ((yT 4), .inr (4, (vT 4))), ((yT 5), .inr (4, (vT 5))), ((yT 6), .inr (4, (vT 6))), ((yT 7), .inr (4, (vT 7))), ((yT 8), .inr (4, (vT 8))), ((yT 9), .inr (4, (vT 9)))]) hP hD hS hA [0, 1, 2, 3, 4, 5, 6, 7, 8, 9, 10, 11] [] [0, 1, 2, 3, 4, 5, 6, 7, 8, 9, 10, 11] rfl (by decide) rfl (by decide) (by decide) (fun _ => rfl) (by decide)) (m_AL_grow1V2 a x0 b yT vT ) kw_758 kw_760 kp_23 kw_11 kw_761 hd_AL_grow1 0 rfl rfl rfl rfl ⟨(Nat.le_of_ble_eq_true rfl), (Nat.le_of_ble_eq_true rfl)⟩ ⟨(Nat.le_of_ble_eq_true rfl), (Nat.le_of_ble_eq_true rfl)⟩ hl.1 (Nat.le_of_ble_eq_true rfl) d_AL_grow0_7 (fun v9 u0 H locs h9 hP hD hS => ?_) (fun q9 E9 u9 ce9 H locs h9 hP hD hS hce9 hcv9 hcl9 => h9.elim)
  obtain rfl := h9
  replace hP : va_P D CL ([(a, .inr (9, [.int x0, .ref u0, .int 10])), (u0, .inl (k 4, 15, .inr (.inr (.inr (.inr (va_cpy (fun i => some (yT i)) (fun _ => none) 0 0 10)))))), ((yT 0), .inr (4, (vT 0))), ((yT 1), .inr (4, (vT 1))), ((yT 2), .inr (4, (vT 2))), ((yT 3), .inr (4, (vT 3))), ((yT 4), .inr (4, (vT 4))), ((yT 5), .inr (4, (vT 5))), ((yT 6), .inr (4, (vT 6))), ((yT 7), .inr (4, (vT 7))), ((yT 8), .inr (4, (vT 8))), ((yT 9), .inr (4, (vT 9)))]) H := hP
  replace hD : va_D A ([(a, .inr (9, [.int x0, .ref u0, .int 10])), (u0, .inl (k 4, 15, .inr (.inr (.inr (.inr (va_cpy (fun i => some (yT i)) (fun _ => none) 0 0 10)))))), ((yT 0), .inr (4, (vT 0))), ((yT 1), .inr (4, (vT 1))), ((yT 2), .inr (4, (vT 2))), ((yT 3), .inr (4, (vT 3))), ((yT 4), .inr (4, (vT 4))), ((yT 5), .inr (4, (vT 5))), ((yT 6), .inr (4, (vT 6))), ((yT 7), .inr (4, (vT 7))), ((yT 8), .inr (4, (vT 8))), ((yT 9), .inr (4, (vT 9)))]) := hD
  refine W.eq (g2 := F0 m 10 ls [.ref u0]) rfl ?_
  refine retX_q (u := u0) (wf := fun u : Nat => [(a, .inr (9, [.int x0, .ref u, .int 10])), (u, .inl (k 4, 15, .inr (.inr (.inr (.inr (va_cpy (fun i => some (yT i)) (fun _ => none) 0 0 10)))))), ((yT 0), .inr (4, (vT 0))), ((yT 1), .inr (4, (vT 1))), ((yT 2), .inr (4, (vT 2))), ((yT 3), .inr (4, (vT 3))), ((yT 4), .inr (4, (vT 4))), ((yT 5), .inr (4, (vT 5))), ((yT 6), .inr (4, (vT 6))), ((yT 7), .inr (4, (vT 7))), ((yT 8), .inr (4, (vT 8))), ((yT 9), .inr (4, (vT 9)))]) C (hP.sub [0, 1, 2, 3, 4, 5, 6, 7, 8, 9, 10, 11] rfl) (hD.sub [0, 1, 2, 3, 4, 5, 6, 7, 8, 9, 10, 11] (by decide) rfl) hS (Nat.le_of_ble_eq_true rfl) (Nat.le_of_ble_eq_true rfl) rfl d_AL_grow0_10
abbrev b_AL_add3 : ByteArray := prog_26_method_24_code
def y_AL_add3 : MethodName := ⟨"java/util/ArrayList", "add", "(Ljava/lang/Object;[Ljava/lang/Object;I)V"⟩
theorem d_AL_add3_0 : decode b_AL_add3 0 = .ok (.iload_n 3, 1) := by decide +kernel
theorem d_AL_add3_1 : decode b_AL_add3 1 = .ok (.aload_n 2, 1) := by decide +kernel
theorem d_AL_add3_2 : decode b_AL_add3 2 = .ok (.arraylength, 1) := by decide +kernel
theorem d_AL_add3_3 : decode b_AL_add3 3 = .ok (.if_icmp .ne 8, 3) := by decide +kernel
theorem d_AL_add3_6 : decode b_AL_add3 6 = .ok (.aload_n 0, 1) := by decide +kernel
theorem d_AL_add3_7 : decode b_AL_add3 7 = .ok (.invokevirtual 129, 3) := by decide +kernel
theorem d_AL_add3_10 : decode b_AL_add3 10 = .ok (.astore_n 2, 1) := by decide +kernel
theorem d_AL_add3_11 : decode b_AL_add3 11 = .ok (.aload_n 2, 1) := by decide +kernel
theorem d_AL_add3_12 : decode b_AL_add3 12 = .ok (.iload_n 3, 1) := by decide +kernel
theorem d_AL_add3_13 : decode b_AL_add3 13 = .ok (.aload_n 1, 1) := by decide +kernel
theorem d_AL_add3_14 : decode b_AL_add3 14 = .ok (.aastore, 1) := by decide +kernel
theorem d_AL_add3_15 : decode b_AL_add3 15 = .ok (.aload_n 0, 1) := by decide +kernel
theorem d_AL_add3_16 : decode b_AL_add3 16 = .ok (.iload_n 3, 1) := by decide +kernel
theorem d_AL_add3_17 : decode b_AL_add3 17 = .ok (.iconst 1, 1) := by decide +kernel
theorem d_AL_add3_18 : decode b_AL_add3 18 = .ok (.iadd, 1) := by decide +kernel
theorem d_AL_add3_19 : decode b_AL_add3 19 = .ok (.putfield 48, 3) := by decide +kernel
theorem d_AL_add3_22 : decode b_AL_add3 22 = .ok (.return_, 1) := by decide +kernel
theorem hd_AL_add3 : y_AL_add3.cls = "java/util/ArrayList" ∧ y_AL_add3.cls ≠ "java/lang/invoke/MethodHandle" ∧ y_AL_add3.cls ≠ "java/lang/invoke/VarHandle" ∧ (parseMethodDescriptor y_AL_add3.desc).map (fun d => d.parameters.length) = some 3 := by decide +kernel
abbrev rm_AL_add3V0 : Room := { frames := 4, cells := 1, slots := 10, locals := 103 }
set_option maxHeartbeats 4000000 in
set_option maxRecDepth 100000 in
theorem m_AL_add3V0 {l : Launch} {D : va_G} {k : Nat → ClassId} (a : Nat) (x0 : Int32) (r : Nat) (vr : List Value) : CX l D k y_AL_add3 b_AL_add3 4 none rm_AL_add3V0 [.ref a, .ref r, .ref (D.1 10), .int 0] [(a, .inr (9, [.int x0, .ref (D.1 10), .int 0])), (r, .inr (4, vr))] (fun u : Nat => [(a, .inr (9, [.int x0, .ref u, .int 1])), (u, .inl (k 4, 10, .inr (.inr (.inr (.inr (va_up (fun _ => none) (Int32.toNatClampNeg 0) (some r))))))), (r, .inr (4, vr))]) (fun v (u : Nat) => v = none) (fun _ _ => False) := by
  refine CX.of (by decide) (Nat.le_of_ble_eq_true rfl) ?_
  intro p e s m below meth c A H locs ls C hX hcx hP hD hS hl
  obtain ⟨hx, hb, hr, hlk, hml, hown, hts, hK, hA⟩ := id C
  obtain ⟨t99, hZ99, hT99, hZ9, hT9, hM9⟩ := id hX.2
  have hca9 : va_Nw (.castable "PromotionTill$Receipt" "java/lang/Object") s := hX.1 s #[] (State.WarmedH.refl s) (fun _ _ _ => rfl) _ (by decide +kernel)
  replace hl : lv_has ls 4 [(0, .ref a), (1, .ref r), (2, .ref (D.1 10)), (3, .int 0)] := hl
  refine lv_iload_n hx hb d_AL_add3_0 rfl (lv_at hl 3 rfl) ?_
  refine lv_aload_n hx hb d_AL_add3_1 rfl (lv_at hl 2 rfl) ?_
  refine va_tlen (v := 0) hx hb hT9 hS rfl d_AL_add3_2 ?_
  refine lv_icmp_ne (tgt := 11) hx hb d_AL_add3_3 (by decide) (fun c9 => absurd c9 (by decide)) (fun _ => ?_)
  refine lv_aload_n hx hb d_AL_add3_6 rfl (lv_at hl 0 rfl) ?_
  refine callXV (As := []) (rest := []) C hX hS (Jn.part (wr := [(r, .inr (4, vr))]) (wn := fun u0 : Nat => [(r, .inr (4, vr)), (a, .inr (9, [.int x0, .ref u0, .int 0])), (u0, .inl (k 4, 10, .inr (.inr (.inr (.inr (fun _ => none))))))]) hP hD hS hA [0] [1] [0, 1, 2] rfl (by decide) rfl (by decide) (by decide) (fun _ => rfl) (by decide)) (m_AL_grow0V0 a x0 ) kw_754 kw_756 kp_22 kw_11 kw_757 hd_AL_grow0 0 rfl rfl rfl rfl ⟨(Nat.le_of_ble_eq_true rfl), (Nat.le_of_ble_eq_true rfl)⟩ ⟨(Nat.le_of_ble_eq_true rfl), (Nat.le_of_ble_eq_true rfl)⟩ hl.1 (Nat.le_of_ble_eq_true rfl) d_AL_add3_7 (fun v9 u0 H locs h9 hP hD hS => ?_) (fun q9 E9 u9 ce9 H locs h9 hP hD hS hce9 hcv9 hcl9 => h9.elim)
  obtain rfl := h9
  replace hP : va_P D CL ([(r, .inr (4, vr)), (a, .inr (9, [.int x0, .ref u0, .int 0])), (u0, .inl (k 4, 10, .inr (.inr (.inr (.inr (fun _ => none))))))]) H := hP
  replace hD : va_D A ([(r, .inr (4, vr)), (a, .inr (9, [.int x0, .ref u0, .int 0])), (u0, .inl (k 4, 10, .inr (.inr (.inr (.inr (fun _ => none))))))]) := hD
  refine W.eq (g2 := F0 m 10 ls [.ref u0]) rfl ?_
  refine lv_astore_n (lv' := [(2, .ref u0), (0, .ref a), (1, .ref r), (3, .int 0)]) hx hb d_AL_add3_10 rfl hl (by decide) rfl (fun ls hl => ?_)
  refine lv_aload_n hx hb d_AL_add3_11 rfl (lv_at hl 0 rfl) ?_
  refine lv_iload_n hx hb d_AL_add3_12 rfl (lv_at hl 3 rfl) ?_
  refine lv_aload_n hx hb d_AL_add3_13 rfl (lv_at hl 2 rfl) ?_
  refine va_astqO (E := "java/lang/Object") hx hb hK hP hD hS 2 4 0 4 rfl rfl hca9 rfl rfl (by unfold vp_in; decide) d_AL_add3_14 (fun H locs hP hD hS => ?_)
  replace hP : va_P D CL ([(r, .inr (4, vr)), (a, .inr (9, [.int x0, .ref u0, .int 0])), (u0, .inl (k 4, 10, .inr (.inr (.inr (.inr (va_up (fun _ => none) (Int32.toNatClampNeg 0) (some r)))))))]) H := hP
  replace hD : va_D A ([(r, .inr (4, vr)), (a, .inr (9, [.int x0, .ref u0, .int 0])), (u0, .inl (k 4, 10, .inr (.inr (.inr (.inr (va_up (fun _ => none) (Int32.toNatClampNeg 0) (some r)))))))]) := hD
  refine lv_aload_n hx hb d_AL_add3_15 rfl (lv_at hl 1 rfl) ?_
  refine lv_iload_n hx hb d_AL_add3_16 rfl (lv_at hl 3 rfl) ?_
  refine lv_iconst (v := 1) hx hb d_AL_add3_17 (by decide) ?_
  refine lv_iadd hx hb d_AL_add3_18 ?_
  refine W.eq (g2 := F0 m 19 ls [.int 1, .ref a]) rfl ?_
  refine va_put (D := D) (ci := 9) (v := .int 1) (ty := .int) (C := R_AL) (T := F_AL) (N := 3) hx hb hts in_AL t_AL tt_AL n_AL hown hK hP hD hS 1 rfl rfl 2 (by decide) (hts _ kw_225) (fun _ h9 => h9) rfl (by decide +kernel) rfl rfl (Nat.le_of_ble_eq_true rfl) d_AL_add3_19 (fun H locs hP hD hS => ?_)
  replace hP : va_P D CL ([(r, .inr (4, vr)), (a, .inr (9, [.int x0, .ref u0, .int 1])), (u0, .inl (k 4, 10, .inr (.inr (.inr (.inr (va_up (fun _ => none) (Int32.toNatClampNeg 0) (some r)))))))]) H := hP
  replace hD : va_D A ([(r, .inr (4, vr)), (a, .inr (9, [.int x0, .ref u0, .int 1])), (u0, .inl (k 4, 10, .inr (.inr (.inr (.inr (va_up (fun _ => none) (Int32.toNatClampNeg 0) (some r)))))))]) := hD
  refine retX_v (u := u0) (wf := fun u : Nat => [(a, .inr (9, [.int x0, .ref u, .int 1])), (u, .inl (k 4, 10, .inr (.inr (.inr (.inr (va_up (fun _ => none) (Int32.toNatClampNeg 0) (some r))))))), (r, .inr (4, vr))]) C (hP.sub [1, 2, 0] rfl) (hD.sub [1, 2, 0] (by decide) rfl) hS (Nat.le_of_ble_eq_true rfl) (Nat.le_of_ble_eq_true rfl) rfl d_AL_add3_22
abbrev b_AL_add1 : ByteArray := prog_26_method_25_code
def y_AL_add1 : MethodName := ⟨"java/util/ArrayList", "add", "(Ljava/lang/Object;)Z"⟩
theorem d_AL_add1_0 : decode b_AL_add1 0 = .ok (.aload_n 0, 1) := by decide +kernel
theorem d_AL_add1_1 : decode b_AL_add1 1 = .ok (.dup, 1) := by decide +kernel
theorem d_AL_add1_2 : decode b_AL_add1 2 = .ok (.getfield 63, 3) := by decide +kernel
theorem d_AL_add1_5 : decode b_AL_add1 5 = .ok (.iconst 1, 1) := by decide +kernel
theorem d_AL_add1_6 : decode b_AL_add1 6 = .ok (.iadd, 1) := by decide +kernel
theorem d_AL_add1_7 : decode b_AL_add1 7 = .ok (.putfield 63, 3) := by decide +kernel
theorem d_AL_add1_10 : decode b_AL_add1 10 = .ok (.aload_n 0, 1) := by decide +kernel
theorem d_AL_add1_11 : decode b_AL_add1 11 = .ok (.aload_n 1, 1) := by decide +kernel
theorem d_AL_add1_12 : decode b_AL_add1 12 = .ok (.aload_n 0, 1) := by decide +kernel
theorem d_AL_add1_13 : decode b_AL_add1 13 = .ok (.getfield 9, 3) := by decide +kernel
theorem d_AL_add1_16 : decode b_AL_add1 16 = .ok (.aload_n 0, 1) := by decide +kernel
theorem d_AL_add1_17 : decode b_AL_add1 17 = .ok (.getfield 48, 3) := by decide +kernel
theorem d_AL_add1_20 : decode b_AL_add1 20 = .ok (.invokevirtual 131, 3) := by decide +kernel
theorem d_AL_add1_23 : decode b_AL_add1 23 = .ok (.iconst 1, 1) := by decide +kernel
theorem d_AL_add1_24 : decode b_AL_add1 24 = .ok (.ireturn, 1) := by decide +kernel
theorem hd_AL_add1 : y_AL_add1.cls = "java/util/ArrayList" ∧ y_AL_add1.cls ≠ "java/lang/invoke/MethodHandle" ∧ y_AL_add1.cls ≠ "java/lang/invoke/VarHandle" ∧ (parseMethodDescriptor y_AL_add1.desc).map (fun d => d.parameters.length) = some 1 := by decide +kernel
abbrev rm_AL_add1V0 : Room := { frames := 5, cells := 1, slots := 10, locals := 126 }
set_option maxHeartbeats 4000000 in
set_option maxRecDepth 100000 in
theorem m_AL_add1V0 {l : Launch} {D : va_G} {k : Nat → ClassId} (a : Nat) (x0 : Int32) (r : Nat) (vr : List Value) : CX l D k y_AL_add1 b_AL_add1 2 (some .boolean) rm_AL_add1V0 [.ref a, .ref r] [(a, .inr (9, [.int x0, .ref (D.1 10), .int 0])), (r, .inr (4, vr))] (fun u : Nat => [(a, .inr (9, [.int (x0 + 1), .ref u, .int 1])), (u, .inl (k 4, 10, .inr (.inr (.inr (.inr (va_up (fun _ => none) (Int32.toNatClampNeg 0) (some r))))))), (r, .inr (4, vr))]) (fun v (u : Nat) => v = some (.int 1)) (fun _ _ => False) := by
  refine CX.of (by decide) (Nat.le_of_ble_eq_true rfl) ?_
  intro p e s m below meth c A H locs ls C hX hcx hP hD hS hl
  obtain ⟨hx, hb, hr, hlk, hml, hown, hts, hK, hA⟩ := id C
  obtain ⟨t99, hZ99, hT99, hZ9, hT9, hM9⟩ := id hX.2
  replace hl : lv_has ls 2 [(0, .ref a), (1, .ref r)] := hl
  refine lv_aload_n hx hb d_AL_add1_0 rfl (lv_at hl 0 rfl) ?_
  refine lv_dup hx hb d_AL_add1_1 rfl ?_
  refine va_get (D := D) (ci := 9) (v := .int x0) (C := R_AL) (T := F_AL) (N := 3) hx hb hts in_AL hown hK hP 0 rfl rfl 0 (by decide) (hts _ kw_227) (u_same (hts _ kw_228)) rfl d_AL_add1_2 ?_
  refine lv_iconst (v := 1) hx hb d_AL_add1_5 (by decide) ?_
  refine lv_iadd hx hb d_AL_add1_6 ?_
  refine va_put (D := D) (ci := 9) (v := .int (x0 + 1)) (ty := .int) (C := R_AL) (T := F_AL) (N := 3) hx hb hts in_AL t_AL tt_AL n_AL hown hK hP hD hS 0 rfl rfl 0 (by decide) (hts _ kw_227) (u_same (hts _ kw_228)) rfl (by decide +kernel) rfl rfl (Nat.le_of_ble_eq_true rfl) d_AL_add1_7 (fun H locs hP hD hS => ?_)
  replace hP : va_P D CL ([(a, .inr (9, [.int (x0 + 1), .ref (D.1 10), .int 0])), (r, .inr (4, vr))]) H := hP
  replace hD : va_D A ([(a, .inr (9, [.int (x0 + 1), .ref (D.1 10), .int 0])), (r, .inr (4, vr))]) := hD
  refine lv_aload_n hx hb d_AL_add1_10 rfl (lv_at hl 0 rfl) ?_
  refine lv_aload_n hx hb d_AL_add1_11 rfl (lv_at hl 1 rfl) ?_
  refine lv_aload_n hx hb d_AL_add1_12 rfl (lv_at hl 0 rfl) ?_
  refine va_get (D := D) (ci := 9) (v := .ref (D.1 10)) (C := R_AL) (T := F_AL) (N := 3) hx hb hts in_AL hown hK hP 0 rfl rfl 1 (by decide) (hts _ kw_224) (fun _ h9 => h9) rfl d_AL_add1_13 ?_
  refine lv_aload_n hx hb d_AL_add1_16 rfl (lv_at hl 0 rfl) ?_
  refine va_get (D := D) (ci := 9) (v := .int 0) (C := R_AL) (T := F_AL) (N := 3) hx hb hts in_AL hown hK hP 0 rfl rfl 2 (by decide) (hts _ kw_225) (fun _ h9 => h9) rfl d_AL_add1_17 ?_
  refine callXV (As := [.ref r, .ref (D.1 10), .int 0]) (rest := []) C hX hS (Jn.part (wr := []) (wn := fun u0 : Nat => [(a, .inr (9, [.int (x0 + 1), .ref u0, .int 1])), (u0, .inl (k 4, 10, .inr (.inr (.inr (.inr (va_up (fun _ => none) (Int32.toNatClampNeg 0) (some r))))))), (r, .inr (4, vr))]) hP hD hS hA [0, 1] [] [0, 1, 2] rfl (by decide) rfl (by decide) (by decide) (fun _ => rfl) (by decide)) (m_AL_add3V0 a (x0 + 1) r vr ) kw_750 kw_752 kp_21 kw_11 kw_753 hd_AL_add3 0 rfl rfl rfl rfl ⟨(Nat.le_of_ble_eq_true rfl), (Nat.le_of_ble_eq_true rfl)⟩ ⟨(Nat.le_of_ble_eq_true rfl), (Nat.le_of_ble_eq_true rfl)⟩ hl.1 (Nat.le_of_ble_eq_true rfl) d_AL_add1_20 (fun v9 u0 H locs h9 hP hD hS => ?_) (fun q9 E9 u9 ce9 H locs h9 hP hD hS hce9 hcv9 hcl9 => h9.elim)
  obtain rfl := h9
  replace hP : va_P D CL ([(a, .inr (9, [.int (x0 + 1), .ref u0, .int 1])), (u0, .inl (k 4, 10, .inr (.inr (.inr (.inr (va_up (fun _ => none) (Int32.toNatClampNeg 0) (some r))))))), (r, .inr (4, vr))]) H := hP
  replace hD : va_D A ([(a, .inr (9, [.int (x0 + 1), .ref u0, .int 1])), (u0, .inl (k 4, 10, .inr (.inr (.inr (.inr (va_up (fun _ => none) (Int32.toNatClampNeg 0) (some r))))))), (r, .inr (4, vr))]) := hD
  refine W.eq (g2 := F0 m 23 ls []) rfl ?_
  refine lv_iconst (v := 1) hx hb d_AL_add1_23 (by decide) ?_
  refine retX_z (u := u0) (wf := fun u : Nat => [(a, .inr (9, [.int (x0 + 1), .ref u, .int 1])), (u, .inl (k 4, 10, .inr (.inr (.inr (.inr (va_up (fun _ => none) (Int32.toNatClampNeg 0) (some r))))))), (r, .inr (4, vr))]) C rfl (hP.sub [0, 1, 2] rfl) (hD.sub [0, 1, 2] (by decide) rfl) hS (Nat.le_of_ble_eq_true rfl) (Nat.le_of_ble_eq_true rfl) rfl d_AL_add1_24
abbrev rm_AL_add3V1 : Room := { frames := 1, cells := 0, slots := 0, locals := 20 }
set_option maxHeartbeats 4000000 in
set_option maxRecDepth 100000 in
theorem m_AL_add3V1 {l : Launch} {D : va_G} {k : Nat → ClassId} (a : Nat) (x0 : Int32) (x2 : Int32) (b : Nat) (n : Nat) (f : Nat → Option Nat) (r : Nat) (vr : List Value) (hin : vp_in x2 n) (hne : x2 ≠ Int32.ofNat n) : CX l D k y_AL_add3 b_AL_add3 4 none rm_AL_add3V1 [.ref a, .ref r, .ref b, .int x2] [(a, .inr (9, [.int x0, .ref b, .int x2])), (b, .inl (k 4, n, .inr (.inr (.inr (.inr f))))), (r, .inr (4, vr))] (fun u : Unit => [(a, .inr (9, [.int x0, .ref b, .int (x2 + 1)])), (b, .inl (k 4, n, .inr (.inr (.inr (.inr (va_up f (Int32.toNatClampNeg x2) (some r))))))), (r, .inr (4, vr))]) (fun v (u : Unit) => v = none) (fun _ _ => False) := by
  refine CX.of (by decide) (Nat.le_of_ble_eq_true rfl) ?_
  intro p e s m below meth c A H locs ls C hX hcx hP hD hS hl
  obtain ⟨hx, hb, hr, hlk, hml, hown, hts, hK, hA⟩ := id C
  obtain ⟨t99, hZ99, hT99, hZ9, hT9, hM9⟩ := id hX.2
  have hca9 : va_Nw (.castable "PromotionTill$Receipt" "java/lang/Object") s := hX.1 s #[] (State.WarmedH.refl s) (fun _ _ _ => rfl) _ (by decide +kernel)
  replace hl : lv_has ls 4 [(0, .ref a), (1, .ref r), (2, .ref b), (3, .int x2)] := hl
  refine lv_iload_n hx hb d_AL_add3_0 rfl (lv_at hl 3 rfl) ?_
  refine lv_aload_n hx hb d_AL_add3_1 rfl (lv_at hl 2 rfl) ?_
  refine va_alen (v := (Int32.ofNat n)) hx hb hK hP 1 4 rfl rfl rfl d_AL_add3_2 ?_
  refine lv_icmp_ne (tgt := 11) hx hb d_AL_add3_3 (by decide) (fun _ => ?_) (fun c9 => absurd c9 hne)
  refine lv_aload_n hx hb d_AL_add3_11 rfl (lv_at hl 2 rfl) ?_
  refine lv_iload_n hx hb d_AL_add3_12 rfl (lv_at hl 3 rfl) ?_
  refine lv_aload_n hx hb d_AL_add3_13 rfl (lv_at hl 1 rfl) ?_
  refine va_astqO (E := "java/lang/Object") hx hb hK hP hD hS 1 4 2 4 rfl rfl hca9 rfl rfl hin d_AL_add3_14 (fun H locs hP hD hS => ?_)
  replace hP : va_P D CL ([(a, .inr (9, [.int x0, .ref b, .int x2])), (b, .inl (k 4, n, .inr (.inr (.inr (.inr (va_up f (Int32.toNatClampNeg x2) (some r))))))), (r, .inr (4, vr))]) H := hP
  replace hD : va_D A ([(a, .inr (9, [.int x0, .ref b, .int x2])), (b, .inl (k 4, n, .inr (.inr (.inr (.inr (va_up f (Int32.toNatClampNeg x2) (some r))))))), (r, .inr (4, vr))]) := hD
  refine lv_aload_n hx hb d_AL_add3_15 rfl (lv_at hl 0 rfl) ?_
  refine lv_iload_n hx hb d_AL_add3_16 rfl (lv_at hl 3 rfl) ?_
  refine lv_iconst (v := 1) hx hb d_AL_add3_17 (by decide) ?_
  refine lv_iadd hx hb d_AL_add3_18 ?_
  refine va_put (D := D) (ci := 9) (v := .int (x2 + 1)) (ty := .int) (C := R_AL) (T := F_AL) (N := 3) hx hb hts in_AL t_AL tt_AL n_AL hown hK hP hD hS 0 rfl rfl 2 (by decide) (hts _ kw_225) (fun _ h9 => h9) rfl (by decide +kernel) rfl rfl (Nat.le_of_ble_eq_true rfl) d_AL_add3_19 (fun H locs hP hD hS => ?_)
  replace hP : va_P D CL ([(a, .inr (9, [.int x0, .ref b, .int (x2 + 1)])), (b, .inl (k 4, n, .inr (.inr (.inr (.inr (va_up f (Int32.toNatClampNeg x2) (some r))))))), (r, .inr (4, vr))]) H := hP
  replace hD : va_D A ([(a, .inr (9, [.int x0, .ref b, .int (x2 + 1)])), (b, .inl (k 4, n, .inr (.inr (.inr (.inr (va_up f (Int32.toNatClampNeg x2) (some r))))))), (r, .inr (4, vr))]) := hD
  refine retX_v (u := ()) (wf := fun u : Unit => [(a, .inr (9, [.int x0, .ref b, .int (x2 + 1)])), (b, .inl (k 4, n, .inr (.inr (.inr (.inr (va_up f (Int32.toNatClampNeg x2) (some r))))))), (r, .inr (4, vr))]) C (hP.sub [0, 1, 2] rfl) (hD.sub [0, 1, 2] (by decide) rfl) hS (Nat.le_of_ble_eq_true rfl) (Nat.le_of_ble_eq_true rfl) rfl d_AL_add3_22
abbrev rm_AL_add1V1 : Room := { frames := 2, cells := 0, slots := 0, locals := 43 }
set_option maxHeartbeats 4000000 in
set_option maxRecDepth 100000 in
theorem m_AL_add1V1 {l : Launch} {D : va_G} {k : Nat → ClassId} (a : Nat) (x0 : Int32) (x2 : Int32) (b : Nat) (n : Nat) (f : Nat → Option Nat) (r : Nat) (vr : List Value) (hin : vp_in x2 n) (hne : x2 ≠ Int32.ofNat n) : CX l D k y_AL_add1 b_AL_add1 2 (some .boolean) rm_AL_add1V1 [.ref a, .ref r] [(a, .inr (9, [.int x0, .ref b, .int x2])), (b, .inl (k 4, n, .inr (.inr (.inr (.inr f))))), (r, .inr (4, vr))] (fun u : Unit => [(a, .inr (9, [.int (x0 + 1), .ref b, .int (x2 + 1)])), (b, .inl (k 4, n, .inr (.inr (.inr (.inr (va_up f (Int32.toNatClampNeg x2) (some r))))))), (r, .inr (4, vr))]) (fun v (u : Unit) => v = some (.int 1)) (fun _ _ => False) := by
  refine CX.of (by decide) (Nat.le_of_ble_eq_true rfl) ?_
  intro p e s m below meth c A H locs ls C hX hcx hP hD hS hl
  obtain ⟨hx, hb, hr, hlk, hml, hown, hts, hK, hA⟩ := id C
  obtain ⟨t99, hZ99, hT99, hZ9, hT9, hM9⟩ := id hX.2
  replace hl : lv_has ls 2 [(0, .ref a), (1, .ref r)] := hl
  refine lv_aload_n hx hb d_AL_add1_0 rfl (lv_at hl 0 rfl) ?_
  refine lv_dup hx hb d_AL_add1_1 rfl ?_
  refine va_get (D := D) (ci := 9) (v := .int x0) (C := R_AL) (T := F_AL) (N := 3) hx hb hts in_AL hown hK hP 0 rfl rfl 0 (by decide) (hts _ kw_227) (u_same (hts _ kw_228)) rfl d_AL_add1_2 ?_
  refine lv_iconst (v := 1) hx hb d_AL_add1_5 (by decide) ?_
  refine lv_iadd hx hb d_AL_add1_6 ?_
  refine va_put (D := D) (ci := 9) (v := .int (x0 + 1)) (ty := .int) (C := R_AL) (T := F_AL) (N := 3) hx hb hts in_AL t_AL tt_AL n_AL hown hK hP hD hS 0 rfl rfl 0 (by decide) (hts _ kw_227) (u_same (hts _ kw_228)) rfl (by decide +kernel) rfl rfl (Nat.le_of_ble_eq_true rfl) d_AL_add1_7 (fun H locs hP hD hS => ?_)
  replace hP : va_P D CL ([(a, .inr (9, [.int (x0 + 1), .ref b, .int x2])), (b, .inl (k 4, n, .inr (.inr (.inr (.inr f))))), (r, .inr (4, vr))]) H := hP
  replace hD : va_D A ([(a, .inr (9, [.int (x0 + 1), .ref b, .int x2])), (b, .inl (k 4, n, .inr (.inr (.inr (.inr f))))), (r, .inr (4, vr))]) := hD
  refine lv_aload_n hx hb d_AL_add1_10 rfl (lv_at hl 0 rfl) ?_
  refine lv_aload_n hx hb d_AL_add1_11 rfl (lv_at hl 1 rfl) ?_
  refine lv_aload_n hx hb d_AL_add1_12 rfl (lv_at hl 0 rfl) ?_
  refine va_get (D := D) (ci := 9) (v := .ref b) (C := R_AL) (T := F_AL) (N := 3) hx hb hts in_AL hown hK hP 0 rfl rfl 1 (by decide) (hts _ kw_224) (fun _ h9 => h9) rfl d_AL_add1_13 ?_
  refine lv_aload_n hx hb d_AL_add1_16 rfl (lv_at hl 0 rfl) ?_
  refine va_get (D := D) (ci := 9) (v := .int x2) (C := R_AL) (T := F_AL) (N := 3) hx hb hts in_AL hown hK hP 0 rfl rfl 2 (by decide) (hts _ kw_225) (fun _ h9 => h9) rfl d_AL_add1_17 ?_
  refine callXV (As := [.ref r, .ref b, .int x2]) (rest := []) C hX hS (Jn.part (wr := []) (wn := fun u0 : Unit => [(a, .inr (9, [.int (x0 + 1), .ref b, .int (x2 + 1)])), (b, .inl (k 4, n, .inr (.inr (.inr (.inr (va_up f (Int32.toNatClampNeg x2) (some r))))))), (r, .inr (4, vr))]) hP hD hS hA [0, 1, 2] [] [0, 1, 2] rfl (by decide) rfl (by decide) (by decide) (fun _ => rfl) (by decide)) (m_AL_add3V1 a (x0 + 1) x2 b n f r vr hin hne) kw_750 kw_752 kp_21 kw_11 kw_753 hd_AL_add3 0 rfl rfl rfl rfl ⟨(Nat.le_of_ble_eq_true rfl), (Nat.le_of_ble_eq_true rfl)⟩ ⟨(Nat.le_of_ble_eq_true rfl), (Nat.le_of_ble_eq_true rfl)⟩ hl.1 (Nat.le_of_ble_eq_true rfl) d_AL_add1_20 (fun v9 u0 H locs h9 hP hD hS => ?_) (fun q9 E9 u9 ce9 H locs h9 hP hD hS hce9 hcv9 hcl9 => h9.elim)
  obtain rfl := h9
  replace hP : va_P D CL ([(a, .inr (9, [.int (x0 + 1), .ref b, .int (x2 + 1)])), (b, .inl (k 4, n, .inr (.inr (.inr (.inr (va_up f (Int32.toNatClampNeg x2) (some r))))))), (r, .inr (4, vr))]) H := hP
  replace hD : va_D A ([(a, .inr (9, [.int (x0 + 1), .ref b, .int (x2 + 1)])), (b, .inl (k 4, n, .inr (.inr (.inr (.inr (va_up f (Int32.toNatClampNeg x2) (some r))))))), (r, .inr (4, vr))]) := hD
  refine W.eq (g2 := F0 m 23 ls []) rfl ?_
  refine lv_iconst (v := 1) hx hb d_AL_add1_23 (by decide) ?_
  refine retX_z (u := ()) (wf := fun u : Unit => [(a, .inr (9, [.int (x0 + 1), .ref b, .int (x2 + 1)])), (b, .inl (k 4, n, .inr (.inr (.inr (.inr (va_up f (Int32.toNatClampNeg x2) (some r))))))), (r, .inr (4, vr))]) C rfl (hP.sub [0, 1, 2] rfl) (hD.sub [0, 1, 2] (by decide) rfl) hS (Nat.le_of_ble_eq_true rfl) (Nat.le_of_ble_eq_true rfl) rfl d_AL_add1_24
abbrev rm_AL_add3V2 : Room := { frames := 6, cells := 1, slots := 15, locals := 147 }
set_option maxHeartbeats 4000000 in
set_option maxRecDepth 100000 in
theorem m_AL_add3V2 {l : Launch} {D : va_G} {k : Nat → ClassId} (a : Nat) (x0 : Int32) (b : Nat) (r : Nat) (vr : List Value) (yT : Nat → Nat) (vT : Nat → List Value) : CX l D k y_AL_add3 b_AL_add3 4 none rm_AL_add3V2 [.ref a, .ref r, .ref b, .int 10] [(a, .inr (9, [.int x0, .ref b, .int 10])), (b, .inl (k 4, 10, .inr (.inr (.inr (.inr (fun i => some (yT i))))))), (r, .inr (4, vr)), ((yT 0), .inr (4, (vT 0))), ((yT 1), .inr (4, (vT 1))), ((yT 2), .inr (4, (vT 2))), ((yT 3), .inr (4, (vT 3))), ((yT 4), .inr (4, (vT 4))), ((yT 5), .inr (4, (vT 5))), ((yT 6), .inr (4, (vT 6))), ((yT 7), .inr (4, (vT 7))), ((yT 8), .inr (4, (vT 8))), ((yT 9), .inr (4, (vT 9)))] (fun u : Nat => [(a, .inr (9, [.int x0, .ref u, .int 11])), (u, .inl (k 4, 15, .inr (.inr (.inr (.inr (va_up (va_cpy (fun i => some (yT i)) (fun _ => none) 0 0 10) (Int32.toNatClampNeg 10) (some r))))))), (r, .inr (4, vr)), ((yT 0), .inr (4, (vT 0))), ((yT 1), .inr (4, (vT 1))), ((yT 2), .inr (4, (vT 2))), ((yT 3), .inr (4, (vT 3))), ((yT 4), .inr (4, (vT 4))), ((yT 5), .inr (4, (vT 5))), ((yT 6), .inr (4, (vT 6))), ((yT 7), .inr (4, (vT 7))), ((yT 8), .inr (4, (vT 8))), ((yT 9), .inr (4, (vT 9)))]) (fun v (u : Nat) => v = none) (fun _ _ => False) := by
  refine CX.of (by decide) (Nat.le_of_ble_eq_true rfl) ?_
  intro p e s m below meth c A H locs ls C hX hcx hP hD hS hl
  obtain ⟨hx, hb, hr, hlk, hml, hown, hts, hK, hA⟩ := id C
  obtain ⟨t99, hZ99, hT99, hZ9, hT9, hM9⟩ := id hX.2
  have hca9 : va_Nw (.castable "PromotionTill$Receipt" "java/lang/Object") s := hX.1 s #[] (State.WarmedH.refl s) (fun _ _ _ => rfl) _ (by decide +kernel)
  replace hl : lv_has ls 4 [(0, .ref a), (1, .ref r), (2, .ref b), (3, .int 10)] := hl
  refine lv_iload_n hx hb d_AL_add3_0 rfl (lv_at hl 3 rfl) ?_
  refine lv_aload_n hx hb d_AL_add3_1 rfl (lv_at hl 2 rfl) ?_
  refine va_alen (v := 10) hx hb hK hP 1 4 rfl rfl rfl d_AL_add3_2 ?_
  refine lv_icmp_ne (tgt := 11) hx hb d_AL_add3_3 (by decide) (fun c9 => absurd c9 (by decide)) (fun _ => ?_)
  refine lv_aload_n hx hb d_AL_add3_6 rfl (lv_at hl 0 rfl) ?_
  refine callXV (As := []) (rest := []) C hX hS (Jn.part (wr := [(r, .inr (4, vr))]) (wn := fun u0 : Nat => [(r, .inr (4, vr)), (a, .inr (9, [.int x0, .ref u0, .int 10])), (u0, .inl (k 4, 15, .inr (.inr (.inr (.inr (va_cpy (fun i => some (yT i)) (fun _ => none) 0 0 10)))))), ((yT 0), .inr (4, (vT 0))), ((yT 1), .inr (4, (vT 1))), ((yT 2), .inr (4, (vT 2))), ((yT 3), .inr (4, (vT 3))), ((yT 4), .inr (4, (vT 4))), ((yT 5), .inr (4, (vT 5))), ((yT 6), .inr (4, (vT 6))), ((yT 7), .inr (4, (vT 7))), ((yT 8), .inr (4, (vT 8))), ((yT 9), .inr (4, (vT 9)))]) hP hD hS hA [0, 1, 3, 4, 5, 6, 7, 8, 9, 10, 11, 12] [2] [0, 1, 2, 3, 4, 5, 6, 7, 8, 9, 10, 11, 12] rfl (by decide) rfl (by decide) (by decide) (fun _ => rfl) (by decide)) (m_AL_grow0V2 a x0 b yT vT ) kw_754 kw_756 kp_22 kw_11 kw_757 hd_AL_grow0 0 rfl rfl rfl rfl ⟨(Nat.le_of_ble_eq_true rfl), (Nat.le_of_ble_eq_true rfl)⟩ ⟨(Nat.le_of_ble_eq_true rfl), (Nat.le_of_ble_eq_true rfl)⟩ hl.1 (Nat.le_of_ble_eq_true rfl) d_AL_add3_7 (fun v9 u0 H locs h9 hP hD hS => ?_) (fun q9 E9 u9 ce9 H locs h9 hP hD hS hce9 hcv9 hcl9 => h9.elim)
  obtain rfl := h9
  replace hP : va_P D CL ([(r, .inr (4, vr)), (a, .inr (9, [.int x0, .ref u0, .int 10])), (u0, .inl (k 4, 15, .inr (.inr (.inr (.inr (va_cpy (fun i => some (yT i)) (fun _ => none) 0 0 10)))))), ((yT 0), .inr (4, (vT 0))), ((yT 1), .inr (4, (vT 1))), ((yT 2), .inr (4, (vT 2))), ((yT 3), .inr (4, (vT 3))), ((yT 4), .inr (4, (vT 4))), ((yT 5), .inr (4, (vT 5))), ((yT 6), .inr (4, (vT 6))), ((yT 7), .inr (4, (vT 7))), ((yT 8), .inr (4, (vT 8))), ((yT 9), .inr (4, (vT 9)))]) H := hP
  replace hD : va_D A ([(r, .inr (4, vr)), (a, .inr (9, [.int x0, .ref u0, .int 10])), (u0, .inl (k 4, 15, .inr (.inr (.inr (.inr (va_cpy (fun i => some (yT i)) (fun _ => none) 0 0 10)))))), ((yT 0), .inr (4, (vT 0))), ((yT 1), .inr (4, (vT 1))), ((yT 2), .inr (4, (vT 2))), ((yT 3), .inr (4, (vT 3))), ((yT 4), .inr (4, (vT 4))), ((yT 5), .inr (4, (vT 5))), ((yT 6), .inr (4, (vT 6))), ((yT 7), .inr (4, (vT 7))), ((yT 8), .inr (4, (vT 8))), ((yT 9), .inr (4, (vT 9)))]) := hD
  refine W.eq (g2 := F0 m 10 ls [.ref u0]) rfl ?_
  refine lv_astore_n (lv' := [(2, .ref u0), (0, .ref a), (1, .ref r), (3, .int 10)]) hx hb d_AL_add3_10 rfl hl (by decide) rfl (fun ls hl => ?_)
  refine lv_aload_n hx hb d_AL_add3_11 rfl (lv_at hl 0 rfl) ?_
  refine lv_iload_n hx hb d_AL_add3_12 rfl (lv_at hl 3 rfl) ?_
  refine lv_aload_n hx hb d_AL_add3_13 rfl (lv_at hl 2 rfl) ?_
  refine va_astqO (E := "java/lang/Object") hx hb hK hP hD hS 2 4 0 4 rfl rfl hca9 rfl rfl (by unfold vp_in; decide) d_AL_add3_14 (fun H locs hP hD hS => ?_)
  replace hP : va_P D CL ([(r, .inr (4, vr)), (a, .inr (9, [.int x0, .ref u0, .int 10])), (u0, .inl (k 4, 15, .inr (.inr (.inr (.inr (va_up (va_cpy (fun i => some (yT i)) (fun _ => none) 0 0 10) (Int32.toNatClampNeg 10) (some r))))))), ((yT 0), .inr (4, (vT 0))), ((yT 1), .inr (4, (vT 1))), ((yT 2), .inr (4, (vT 2))), ((yT 3), .inr (4, (vT 3))), ((yT 4), .inr (4, (vT 4))), ((yT 5), .inr (4, (vT 5))), ((yT 6), .inr (4, (vT 6))), ((yT 7), .inr (4, (vT 7))), ((yT 8), .inr (4, (vT 8))), ((yT 9), .inr (4, (vT 9)))]) H := hP
  replace hD : va_D A ([(r, .inr (4, vr)), (a, .inr (9, [.int x0, .ref u0, .int 10])), (u0, .inl (k 4, 15, .inr (.inr (.inr (.inr (va_up (va_cpy (fun i => some (yT i)) (fun _ => none) 0 0 10) (Int32.toNatClampNeg 10) (some r))))))), ((yT 0), .inr (4, (vT 0))), ((yT 1), .inr (4, (vT 1))), ((yT 2), .inr (4, (vT 2))), ((yT 3), .inr (4, (vT 3))), ((yT 4), .inr (4, (vT 4))), ((yT 5), .inr (4, (vT 5))), ((yT 6), .inr (4, (vT 6))), ((yT 7), .inr (4, (vT 7))), ((yT 8), .inr (4, (vT 8))), ((yT 9), .inr (4, (vT 9)))]) := hD
  refine lv_aload_n hx hb d_AL_add3_15 rfl (lv_at hl 1 rfl) ?_
  refine lv_iload_n hx hb d_AL_add3_16 rfl (lv_at hl 3 rfl) ?_
  refine lv_iconst (v := 1) hx hb d_AL_add3_17 (by decide) ?_
  refine lv_iadd hx hb d_AL_add3_18 ?_
  refine W.eq (g2 := F0 m 19 ls [.int 11, .ref a]) rfl ?_
  refine va_put (D := D) (ci := 9) (v := .int 11) (ty := .int) (C := R_AL) (T := F_AL) (N := 3) hx hb hts in_AL t_AL tt_AL n_AL hown hK hP hD hS 1 rfl rfl 2 (by decide) (hts _ kw_225) (fun _ h9 => h9) rfl (by decide +kernel) rfl rfl (Nat.le_of_ble_eq_true rfl) d_AL_add3_19 (fun H locs hP hD hS => ?_)
  replace hP : va_P D CL ([(r, .inr (4, vr)), (a, .inr (9, [.int x0, .ref u0, .int 11])), (u0, .inl (k 4, 15, .inr (.inr (.inr (.inr (va_up (va_cpy (fun i => some (yT i)) (fun _ => none) 0 0 10) (Int32.toNatClampNeg 10) (some r))))))), ((yT 0), .inr (4, (vT 0))), ((yT 1), .inr (4, (vT 1))), ((yT 2), .inr (4, (vT 2))), ((yT 3), .inr (4, (vT 3))), ((yT 4), .inr (4, (vT 4))), ((yT 5), .inr (4, (vT 5))), ((yT 6), .inr (4, (vT 6))), ((yT 7), .inr (4, (vT 7))), ((yT 8), .inr (4, (vT 8))), ((yT 9), .inr (4, (vT 9)))]) H := hP
  replace hD : va_D A ([(r, .inr (4, vr)), (a, .inr (9, [.int x0, .ref u0, .int 11])), (u0, .inl (k 4, 15, .inr (.inr (.inr (.inr (va_up (va_cpy (fun i => some (yT i)) (fun _ => none) 0 0 10) (Int32.toNatClampNeg 10) (some r))))))), ((yT 0), .inr (4, (vT 0))), ((yT 1), .inr (4, (vT 1))), ((yT 2), .inr (4, (vT 2))), ((yT 3), .inr (4, (vT 3))), ((yT 4), .inr (4, (vT 4))), ((yT 5), .inr (4, (vT 5))), ((yT 6), .inr (4, (vT 6))), ((yT 7), .inr (4, (vT 7))), ((yT 8), .inr (4, (vT 8))), ((yT 9), .inr (4, (vT 9)))]) := hD
  refine retX_v (u := u0) (wf := fun u : Nat => [(a, .inr (9, [.int x0, .ref u, .int 11])), (u, .inl (k 4, 15, .inr (.inr (.inr (.inr (va_up (va_cpy (fun i => some (yT i)) (fun _ => none) 0 0 10) (Int32.toNatClampNeg 10) (some r))))))), (r, .inr (4, vr)), ((yT 0), .inr (4, (vT 0))), ((yT 1), .inr (4, (vT 1))), ((yT 2), .inr (4, (vT 2))), ((yT 3), .inr (4, (vT 3))), ((yT 4), .inr (4, (vT 4))), ((yT 5), .inr (4, (vT 5))), ((yT 6), .inr (4, (vT 6))), ((yT 7), .inr (4, (vT 7))), ((yT 8), .inr (4, (vT 8))), ((yT 9), .inr (4, (vT 9)))]) C (hP.sub [1, 2, 0, 3, 4, 5, 6, 7, 8, 9, 10, 11, 12] rfl) (hD.sub [1, 2, 0, 3, 4, 5, 6, 7, 8, 9, 10, 11, 12] (by decide) rfl) hS (Nat.le_of_ble_eq_true rfl) (Nat.le_of_ble_eq_true rfl) rfl d_AL_add3_22
abbrev rm_AL_add1V2 : Room := { frames := 7, cells := 1, slots := 15, locals := 170 }
set_option maxHeartbeats 4000000 in
set_option maxRecDepth 100000 in
theorem m_AL_add1V2 {l : Launch} {D : va_G} {k : Nat → ClassId} (a : Nat) (x0 : Int32) (b : Nat) (r : Nat) (vr : List Value) (yT : Nat → Nat) (vT : Nat → List Value) : CX l D k y_AL_add1 b_AL_add1 2 (some .boolean) rm_AL_add1V2 [.ref a, .ref r] [(a, .inr (9, [.int x0, .ref b, .int 10])), (b, .inl (k 4, 10, .inr (.inr (.inr (.inr (fun i => some (yT i))))))), (r, .inr (4, vr)), ((yT 0), .inr (4, (vT 0))), ((yT 1), .inr (4, (vT 1))), ((yT 2), .inr (4, (vT 2))), ((yT 3), .inr (4, (vT 3))), ((yT 4), .inr (4, (vT 4))), ((yT 5), .inr (4, (vT 5))), ((yT 6), .inr (4, (vT 6))), ((yT 7), .inr (4, (vT 7))), ((yT 8), .inr (4, (vT 8))), ((yT 9), .inr (4, (vT 9)))] (fun u : Nat => [(a, .inr (9, [.int (x0 + 1), .ref u, .int 11])), (u, .inl (k 4, 15, .inr (.inr (.inr (.inr (va_up (va_cpy (fun i => some (yT i)) (fun _ => none) 0 0 10) (Int32.toNatClampNeg 10) (some r))))))), (r, .inr (4, vr)), ((yT 0), .inr (4, (vT 0))), ((yT 1), .inr (4, (vT 1))), ((yT 2), .inr (4, (vT 2))), ((yT 3), .inr (4, (vT 3))), ((yT 4), .inr (4, (vT 4))), ((yT 5), .inr (4, (vT 5))), ((yT 6), .inr (4, (vT 6))), ((yT 7), .inr (4, (vT 7))), ((yT 8), .inr (4, (vT 8))), ((yT 9), .inr (4, (vT 9)))]) (fun v (u : Nat) => v = some (.int 1)) (fun _ _ => False) := by
  refine CX.of (by decide) (Nat.le_of_ble_eq_true rfl) ?_
  intro p e s m below meth c A H locs ls C hX hcx hP hD hS hl
  obtain ⟨hx, hb, hr, hlk, hml, hown, hts, hK, hA⟩ := id C
  obtain ⟨t99, hZ99, hT99, hZ9, hT9, hM9⟩ := id hX.2
  replace hl : lv_has ls 2 [(0, .ref a), (1, .ref r)] := hl
  refine lv_aload_n hx hb d_AL_add1_0 rfl (lv_at hl 0 rfl) ?_
  refine lv_dup hx hb d_AL_add1_1 rfl ?_
  refine va_get (D := D) (ci := 9) (v := .int x0) (C := R_AL) (T := F_AL) (N := 3) hx hb hts in_AL hown hK hP 0 rfl rfl 0 (by decide) (hts _ kw_227) (u_same (hts _ kw_228)) rfl d_AL_add1_2 ?_
  refine lv_iconst (v := 1) hx hb d_AL_add1_5 (by decide) ?_
  refine lv_iadd hx hb d_AL_add1_6 ?_
  refine va_put (D := D) (ci := 9) (v := .int (x0 + 1)) (ty := .int) (C := R_AL) (T := F_AL) (N := 3) hx hb hts in_AL t_AL tt_AL n_AL hown hK hP hD hS 0 rfl rfl 0 (by decide) (hts _ kw_227) (u_same (hts _ kw_228)) rfl (by decide +kernel) rfl rfl (Nat.le_of_ble_eq_true rfl) d_AL_add1_7 (fun H locs hP hD hS => ?_)
  replace hP : va_P D CL ([(a, .inr (9, [.int (x0 + 1), .ref b, .int 10])), (b, .inl (k 4, 10, .inr (.inr (.inr (.inr (fun i => some (yT i))))))), (r, .inr (4, vr)), ((yT 0), .inr (4, (vT 0))), ((yT 1), .inr (4, (vT 1))), ((yT 2), .inr (4, (vT 2))), ((yT 3), .inr (4, (vT 3))), ((yT 4), .inr (4, (vT 4))), ((yT 5), .inr (4, (vT 5))), ((yT 6), .inr (4, (vT 6))), ((yT 7), .inr (4, (vT 7))), ((yT 8), .inr (4, (vT 8))), ((yT 9), .inr (4, (vT 9)))]) H := hP
  replace hD : va_D A ([(a, .inr (9, [.int (x0 + 1), .ref b, .int 10])), (b, .inl (k 4, 10, .inr (.inr (.inr (.inr (fun i => some (yT i))))))), (r, .inr (4, vr)), ((yT 0), .inr (4, (vT 0))), ((yT 1), .inr (4, (vT 1))), ((yT 2), .inr (4, (vT 2))), ((yT 3), .inr (4, (vT 3))), ((yT 4), .inr (4, (vT 4))), ((yT 5), .inr (4, (vT 5))), ((yT 6), .inr (4, (vT 6))), ((yT 7), .inr (4, (vT 7))), ((yT 8), .inr (4, (vT 8))), ((yT 9), .inr (4, (vT 9)))]) := hD
  refine lv_aload_n hx hb d_AL_add1_10 rfl (lv_at hl 0 rfl) ?_
  refine lv_aload_n hx hb d_AL_add1_11 rfl (lv_at hl 1 rfl) ?_
  refine lv_aload_n hx hb d_AL_add1_12 rfl (lv_at hl 0 rfl) ?_
  refine va_get (D := D) (ci := 9) (v := .ref b) (C := R_AL) (T := F_AL) (N := 3) hx hb hts in_AL hown hK hP 0 rfl rfl 1 (by decide) (hts _ kw_224) (fun _ h9 => h9) rfl d_AL_add1_13 ?_
  refine lv_aload_n hx hb d_AL_add1_16 rfl (lv_at hl 0 rfl) ?_
  refine va_get (D := D) (ci := 9) (v := .int 10) (C := R_AL) (T := F_AL) (N := 3) hx hb hts in_AL hown hK hP 0 rfl rfl 2 (by decide) (hts _ kw_225) (fun _ h9 => h9) rfl d_AL_add1_17 ?_
  refine callXV (As := [.ref r, .ref b, .int 10]) (rest := []) C hX hS (Jn.part (wr := []) (wn := fun u0 : Nat => [(a, .inr (9, [.int (x0 + 1), .ref u0, .int 11])), (u0, .inl (k 4, 15, .inr (.inr (.inr (.inr (va_up (va_cpy (fun i => some (yT i)) (fun _ => none) 0 0 10) (Int32.toNatClampNeg 10) (some r))))))), (r, .inr (4, vr)), ((yT 0), .inr (4, (vT 0))), ((yT 1), .inr (4, (vT 1))), ((yT 2), .inr (4, (vT 2))), ((yT 3), .inr (4, (vT 3))), ((yT 4), .inr (4, (vT 4))), ((yT 5), .inr (4, (vT 5))), ((yT 6), .inr (4, (vT 6))), ((yT 7), .inr (4, (vT 7))), ((yT 8), .inr (4, (vT 8))), ((yT 9), .inr (4, (vT 9)))]) hP hD hS hA [0, 1, 2, 3, 4, 5, 6, 7, 8, 9, 10, 11, 12] [] [0, 1, 2, 3, 4, 5, 6, 7, 8, 9, 10, 11, 12] rfl (by decide) rfl (by decide) (by decide) (fun _ => rfl) (by decide)) (m_AL_add3V2 a (x0 + 1) b r vr yT vT ) kw_750 kw_752 kp_21 kw_11 kw_753 hd_AL_add3 0 rfl rfl rfl rfl ⟨(Nat.le_of_ble_eq_true rfl), (Nat.le_of_ble_eq_true rfl)⟩ ⟨(Nat.le_of_ble_eq_true rfl), (Nat.le_of_ble_eq_true rfl)⟩ hl.1 (Nat.le_of_ble_eq_true rfl) d_AL_add1_20 (fun v9 u0 H locs h9 hP hD hS => ?_) (fun q9 E9 u9 ce9 H locs h9 hP hD hS hce9 hcv9 hcl9 => h9.elim)
  obtain rfl := h9
  replace hP : va_P D CL ([(a, .inr (9, [.int (x0 + 1), .ref u0, .int 11])), (u0, .inl (k 4, 15, .inr (.inr (.inr (.inr (va_up (va_cpy (fun i => some (yT i)) (fun _ => none) 0 0 10) (Int32.toNatClampNeg 10) (some r))))))), (r, .inr (4, vr)), ((yT 0), .inr (4, (vT 0))), ((yT 1), .inr (4, (vT 1))), ((yT 2), .inr (4, (vT 2))), ((yT 3), .inr (4, (vT 3))), ((yT 4), .inr (4, (vT 4))), ((yT 5), .inr (4, (vT 5))), ((yT 6), .inr (4, (vT 6))), ((yT 7), .inr (4, (vT 7))), ((yT 8), .inr (4, (vT 8))), ((yT 9), .inr (4, (vT 9)))]) H := hP
  replace hD : va_D A ([(a, .inr (9, [.int (x0 + 1), .ref u0, .int 11])), (u0, .inl (k 4, 15, .inr (.inr (.inr (.inr (va_up (va_cpy (fun i => some (yT i)) (fun _ => none) 0 0 10) (Int32.toNatClampNeg 10) (some r))))))), (r, .inr (4, vr)), ((yT 0), .inr (4, (vT 0))), ((yT 1), .inr (4, (vT 1))), ((yT 2), .inr (4, (vT 2))), ((yT 3), .inr (4, (vT 3))), ((yT 4), .inr (4, (vT 4))), ((yT 5), .inr (4, (vT 5))), ((yT 6), .inr (4, (vT 6))), ((yT 7), .inr (4, (vT 7))), ((yT 8), .inr (4, (vT 8))), ((yT 9), .inr (4, (vT 9)))]) := hD
  refine W.eq (g2 := F0 m 23 ls []) rfl ?_
  refine lv_iconst (v := 1) hx hb d_AL_add1_23 (by decide) ?_
  refine retX_z (u := u0) (wf := fun u : Nat => [(a, .inr (9, [.int (x0 + 1), .ref u, .int 11])), (u, .inl (k 4, 15, .inr (.inr (.inr (.inr (va_up (va_cpy (fun i => some (yT i)) (fun _ => none) 0 0 10) (Int32.toNatClampNeg 10) (some r))))))), (r, .inr (4, vr)), ((yT 0), .inr (4, (vT 0))), ((yT 1), .inr (4, (vT 1))), ((yT 2), .inr (4, (vT 2))), ((yT 3), .inr (4, (vT 3))), ((yT 4), .inr (4, (vT 4))), ((yT 5), .inr (4, (vT 5))), ((yT 6), .inr (4, (vT 6))), ((yT 7), .inr (4, (vT 7))), ((yT 8), .inr (4, (vT 8))), ((yT 9), .inr (4, (vT 9)))]) C rfl (hP.sub [0, 1, 2, 3, 4, 5, 6, 7, 8, 9, 10, 11, 12] rfl) (hD.sub [0, 1, 2, 3, 4, 5, 6, 7, 8, 9, 10, 11, 12] (by decide) rfl) hS (Nat.le_of_ble_eq_true rfl) (Nat.le_of_ble_eq_true rfl) rfl d_AL_add1_24
