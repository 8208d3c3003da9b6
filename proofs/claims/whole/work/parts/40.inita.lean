theorem q_icmpT_ge {p : Program} {l : Launch} {e : Env} {R : Room} {s : State} {m : MethodId} {args : Array Value} {below : List Frame} {meth : Method} {c : Code} {Q : State → Prop} {cc : ByteArray} {nL cs ss : Nat} {own : String} {Ts : List Cond} {D : va_G} {TY : List (ClassId × FieldType)} {A : Nat → Prop} {ws : va_W} {lv : List (Nat × Value)} {pc : Nat} {st : List Value} (C : Cx p s m args c cc nL own Ts D TY A) {x y : Int32} {off : Int} (tgt : Nat) (hdg : decode cc pc = .ok (.if_icmp .ge off, 3)) (ht : (pc : Int) + off = (tgt : Int)) (hc : y ≤ x) (k : WW p l e R s m args below meth c Q D A nL cs ss ws lv tgt st) : WW p l e R s m args below meth c Q D A nL cs ss ws lv pc (.int y :: .int x :: st) := fun H locs ls hP hD hS hl => lv_icmp_ge C.1.1 C.1.2.1 hdg ht (fun _ => k H locs ls hP hD hS hl) (fun h => absurd hc h)
theorem q_icmpF_ge {p : Program} {l : Launch} {e : Env} {R : Room} {s : State} {m : MethodId} {args : Array Value} {below : List Frame} {meth : Method} {c : Code} {Q : State → Prop} {cc : ByteArray} {nL cs ss : Nat} {own : String} {Ts : List Cond} {D : va_G} {TY : List (ClassId × FieldType)} {A : Nat → Prop} {ws : va_W} {lv : List (Nat × Value)} {pc : Nat} {st : List Value} (C : Cx p s m args c cc nL own Ts D TY A) {x y : Int32} {off : Int} (hdg : decode cc pc = .ok (.if_icmp .ge off, 3)) (hc : ¬ y ≤ x) (k : WW p l e R s m args below meth c Q D A nL cs ss ws lv (pc + 3) st) : WW p l e R s m args below meth c Q D A nL cs ss ws lv pc (.int y :: .int x :: st) := fun H locs ls hP hD hS hl => by
  have hz : ((pc : Int) + off = (((pc : Int) + off).toNat : Int)) ∨ ¬ ((pc : Int) + off = (((pc : Int) + off).toNat : Int)) := Classical.em _
  intro T hT X
  obtain ⟨t, a, b⟩ := k H locs ls hP hD hS hl T hT X
  refine ⟨t, ?_, b⟩
  jvm_step X.here [X.here.top, C.1.1, C.1.2.1, hdg, Op.if_icmp.holds, hc]
  exact a
theorem q_perm {p : Program} {l : Launch} {e : Env} {R : Room} {s : State} {m : MethodId} {args : Array Value} {below : List Frame} {meth : Method} {c : Code} {Q : State → Prop} {cc : ByteArray} {nL cs ss : Nat} {own : String} {Ts : List Cond} {D : va_G} {TY : List (ClassId × FieldType)} {A : Nat → Prop} {ws : va_W} {lv : List (Nat × Value)} {pc : Nat} {st : List Value} (ws1 : va_W) (is : List Nat) (hs : is.map (fun i => ws[i]?) = ws1.map some) (hn : ndB is = true) (k : WW p l e R s m args below meth c Q D A nL cs ss ws1 lv pc st) : WW p l e R s m args below meth c Q D A nL cs ss ws lv pc st := fun H locs ls hP hD hS hl => k H locs ls (hP.sub is (fm_of_map hs)) (hD.sub is (ndB_e hn) hs) hS hl
theorem lkX3_init_1 : Cond.methodLink RX3 3 objectInit ∈ wsX3_init := List.mem_of_getElem? (i := 1) rfl
theorem lkX3_init_2 : Cond.instanceMethod objectInit ∈ wsX3_init := List.mem_of_getElem? (i := 2) rfl
theorem lkX3_init_3 : Cond.code objectInit ⟨#[0xb1]⟩ 1 none ∈ wsX3_init := List.mem_of_getElem? (i := 3) rfl
theorem lkX3_init_4 : Cond.fieldLink RX3 9 "TwiceHeard$Net" "size" "I" ∈ wsX3_init := List.mem_of_getElem? (i := 4) rfl
theorem lkX3_init_5 : Cond.arrayClass .int ∈ wsX3_init := List.mem_of_getElem? (i := 5) rfl
theorem lkX3_init_6 : Cond.fieldLink RX3 15 "TwiceHeard$Net" "linked" "[I" ∈ wsX3_init := List.mem_of_getElem? (i := 6) rfl
theorem lkX3_init_7 : Cond.fieldLink RX3 19 "TwiceHeard$Net" "lost" "[I" ∈ wsX3_init := List.mem_of_getElem? (i := 7) rfl
theorem lkX3_init_8 : Cond.fieldLink RX3 22 "TwiceHeard$Net" "heard" "[I" ∈ wsX3_init := List.mem_of_getElem? (i := 8) rfl
theorem inX3_init_X3 : ∀ w ∈ wsX30, w ∈ wsX3_init := fun w h => List.mem_cons_of_mem _ (List.mem_append_right _ h)
abbrev rmX3_init : Room := { frames := 1, cells := 3, slots := 27, locals := 12 }
theorem hdX3_init : yX3_init.cls ≠ "java/lang/invoke/MethodHandle" ∧ yX3_init.cls ≠ "java/lang/invoke/VarHandle" ∧ (parseMethodDescriptor yX3_init.desc).map (fun d => d.parameters.length) = some 0 := by decide +kernel
set_option maxRecDepth 100000 in
set_option maxHeartbeats 8000000 in
theorem kX3_init (l : Launch) (D : va_G) (cI cJ cZ cN cM : ClassId) (h0 : Nat) : MetN l yX3_init wsX3_init rmX3_init D (TYL cI cJ cZ cN cM) h0 [(h0, .inr (3, [.int 0, .int 0, .int 0, .null, .null, .null]))] (fun u => nW cI cJ cZ cN cM (u 0) 1 0 0 (fun _ => 0) (fun _ => 0) (fun _ => 0)) 3 27 := by
  refine MetN.mk (cc := cX3_init) (maxL := 1) (own := RX3) (by decide +kernel) rfl rfl rfl (Nat.le_of_ble_eq_true rfl) ?_
  intro p e s m args below meth c A Q C hin hret
  refine q_aload_n C 0 dX3_init_0 rfl ?_
  refine q_objInit C dX3_init_1 lkX3_init_1 lkX3_init_2 lkX3_init_3 (Nat.le_of_ble_eq_true rfl) (Nat.le_of_ble_eq_true rfl) ?_
  refine q_aload_n C 0 dX3_init_4 rfl ?_
  refine q_iconst C 1 dX3_init_5 (by decide) ?_
  refine q_put C 0 0 [(h0, .inr (3, [.int 1, .int 0, .int 0, .null, .null, .null]))] dX3_init_6 rfl rfl (Nat.le_of_ble_eq_true rfl) inX3_init_X3 tyX3 tyX3_ok nmX3 lkX3_init_4 rfl rfl rfl rfl (Nat.le_of_ble_eq_true rfl) rfl ?_
  refine q_aload_n C 0 dX3_init_9 rfl ?_
  refine q_bipush C 9 dX3_init_10 (by decide) ?_
  refine q_newa C (atype := .int) (ty := .int) (a0 := (9, .inl (fun _ => 0))) (N1 := 9) 0 (fun q12 => [(h0, .inr (3, [.int 1, .int 0, .int 0, .null, .null, .null])), (q12, .inl (cI, 9, .inl (fun _ => 0)))]) dX3_init_12 lkX3_init_5 rfl rfl (fun _ _ h => h) (fun _ => rfl) (by decide) (by decide) (Nat.le_of_ble_eq_true rfl) (Nat.le_of_ble_eq_true rfl) (Nat.le_of_ble_eq_true rfl) (fun _ => rfl) (fun q12 => ?_)
  refine q_putF C 0 3 [(h0, .inr (3, [.int 1, .int 0, .int 0, .ref (q12), .null, .null])), (q12, .inl (cI, 9, .inl (fun _ => 0)))] hin dX3_init_14 rfl rfl (Nat.le_of_ble_eq_true rfl) inX3_init_X3 tyX3 tyX3_ok nmX3 lkX3_init_6 rfl rfl rfl rfl rfl (Nat.le_of_ble_eq_true rfl) rfl ?_
  refine q_aload_n C 0 dX3_init_17 rfl ?_
  refine q_bipush C 9 dX3_init_18 (by decide) ?_
  refine q_newa C (atype := .int) (ty := .int) (a0 := (9, .inl (fun _ => 0))) (N1 := 9) 0 (fun q20 => [(h0, .inr (3, [.int 1, .int 0, .int 0, .ref (q12), .null, .null])), (q12, .inl (cI, 9, .inl (fun _ => 0))), (q20, .inl (cI, 9, .inl (fun _ => 0)))]) dX3_init_20 lkX3_init_5 rfl rfl (fun _ _ h => h) (fun _ => rfl) (by decide) (by decide) (Nat.le_of_ble_eq_true rfl) (Nat.le_of_ble_eq_true rfl) (Nat.le_of_ble_eq_true rfl) (fun _ => rfl) (fun q20 => ?_)
  refine q_putF C 0 4 [(h0, .inr (3, [.int 1, .int 0, .int 0, .ref (q12), .ref (q20), .null])), (q12, .inl (cI, 9, .inl (fun _ => 0))), (q20, .inl (cI, 9, .inl (fun _ => 0)))] hin dX3_init_22 rfl rfl (Nat.le_of_ble_eq_true rfl) inX3_init_X3 tyX3 tyX3_ok nmX3 lkX3_init_7 rfl rfl rfl rfl rfl (Nat.le_of_ble_eq_true rfl) rfl ?_
  refine q_aload_n C 0 dX3_init_25 rfl ?_
  refine q_bipush C 9 dX3_init_26 (by decide) ?_
  refine q_newa C (atype := .int) (ty := .int) (a0 := (9, .inl (fun _ => 0))) (N1 := 9) 0 (fun q28 => [(h0, .inr (3, [.int 1, .int 0, .int 0, .ref (q12), .ref (q20), .null])), (q12, .inl (cI, 9, .inl (fun _ => 0))), (q20, .inl (cI, 9, .inl (fun _ => 0))), (q28, .inl (cI, 9, .inl (fun _ => 0)))]) dX3_init_28 lkX3_init_5 rfl rfl (fun _ _ h => h) (fun _ => rfl) (by decide) (by decide) (Nat.le_of_ble_eq_true rfl) (Nat.le_of_ble_eq_true rfl) (Nat.le_of_ble_eq_true rfl) (fun _ => rfl) (fun q28 => ?_)
  refine q_putF C 0 5 [(h0, .inr (3, [.int 1, .int 0, .int 0, .ref (q12), .ref (q20), .ref (q28)])), (q12, .inl (cI, 9, .inl (fun _ => 0))), (q20, .inl (cI, 9, .inl (fun _ => 0))), (q28, .inl (cI, 9, .inl (fun _ => 0)))] hin dX3_init_30 rfl rfl (Nat.le_of_ble_eq_true rfl) inX3_init_X3 tyX3 tyX3_ok nmX3 lkX3_init_8 rfl rfl rfl rfl rfl (Nat.le_of_ble_eq_true rfl) rfl ?_
  refine q_widen (cs1 := 3) (ss1 := 27) (Nat.le_of_ble_eq_true rfl) (Nat.le_of_ble_eq_true rfl) ?_
  exact hret (fun k i => (([[h0, q12, q20, q28]] : List (List Nat)).getD k []).getD i 0) _ _ rfl dX3_init_33

theorem lkX0_init_1 : Cond.methodLink RX0 3 objectInit ∈ wsX0_init := List.mem_of_getElem? (i := 1) rfl
theorem lkX0_init_2 : Cond.instanceMethod objectInit ∈ wsX0_init := List.mem_of_getElem? (i := 2) rfl
theorem lkX0_init_3 : Cond.code objectInit ⟨#[0xb1]⟩ 1 none ∈ wsX0_init := List.mem_of_getElem? (i := 3) rfl
theorem lkX0_init_4 : Cond.arrayClass .int ∈ wsX0_init := List.mem_of_getElem? (i := 4) rfl
theorem lkX0_init_5 : Cond.fieldLink RX0 9 "TwiceHeard$Book" "nodes" "[I" ∈ wsX0_init := List.mem_of_getElem? (i := 5) rfl
theorem lkX0_init_6 : Cond.fieldLink RX0 15 "TwiceHeard$Book" "guesses" "[I" ∈ wsX0_init := List.mem_of_getElem? (i := 6) rfl
theorem inX0_init_X0 : ∀ w ∈ wsX00, w ∈ wsX0_init := fun w h => List.mem_cons_of_mem _ (List.mem_append_right _ h)
abbrev rmX0_init : Room := { frames := 1, cells := 2, slots := 40, locals := 12 }
theorem hdX0_init : yX0_init.cls ≠ "java/lang/invoke/MethodHandle" ∧ yX0_init.cls ≠ "java/lang/invoke/VarHandle" ∧ (parseMethodDescriptor yX0_init.desc).map (fun d => d.parameters.length) = some 0 := by decide +kernel
set_option maxRecDepth 100000 in
set_option maxHeartbeats 8000000 in
theorem kX0_init (l : Launch) (D : va_G) (cI cJ cZ cN cM : ClassId) (h0 : Nat) : MetN l yX0_init wsX0_init rmX0_init D (TYL cI cJ cZ cN cM) h0 [(h0, .inr (0, [.null, .null, .int 0]))] (fun u => bW cI cJ cZ cN cM (u 0) (fun _ => 0) (fun _ => 0) 0) 2 40 := by
  refine MetN.mk (cc := cX0_init) (maxL := 1) (own := RX0) (by decide +kernel) rfl rfl rfl (Nat.le_of_ble_eq_true rfl) ?_
  intro p e s m args below meth c A Q C hin hret
  refine q_aload_n C 0 dX0_init_0 rfl ?_
  refine q_objInit C dX0_init_1 lkX0_init_1 lkX0_init_2 lkX0_init_3 (Nat.le_of_ble_eq_true rfl) (Nat.le_of_ble_eq_true rfl) ?_
  refine q_aload_n C 0 dX0_init_4 rfl ?_
  refine q_bipush C 20 dX0_init_5 (by decide) ?_
  refine q_newa C (atype := .int) (ty := .int) (a0 := (20, .inl (fun _ => 0))) (N1 := 20) 0 (fun q7 => [(h0, .inr (0, [.null, .null, .int 0])), (q7, .inl (cI, 20, .inl (fun _ => 0)))]) dX0_init_7 lkX0_init_4 rfl rfl (fun _ _ h => h) (fun _ => rfl) (by decide) (by decide) (Nat.le_of_ble_eq_true rfl) (Nat.le_of_ble_eq_true rfl) (Nat.le_of_ble_eq_true rfl) (fun _ => rfl) (fun q7 => ?_)
  refine q_putF C 0 0 [(h0, .inr (0, [.ref (q7), .null, .int 0])), (q7, .inl (cI, 20, .inl (fun _ => 0)))] hin dX0_init_9 rfl rfl (Nat.le_of_ble_eq_true rfl) inX0_init_X0 tyX0 tyX0_ok nmX0 lkX0_init_5 rfl rfl rfl rfl rfl (Nat.le_of_ble_eq_true rfl) rfl ?_
  refine q_aload_n C 0 dX0_init_12 rfl ?_
  refine q_bipush C 20 dX0_init_13 (by decide) ?_
  refine q_newa C (atype := .int) (ty := .int) (a0 := (20, .inl (fun _ => 0))) (N1 := 20) 0 (fun q15 => [(h0, .inr (0, [.ref (q7), .null, .int 0])), (q7, .inl (cI, 20, .inl (fun _ => 0))), (q15, .inl (cI, 20, .inl (fun _ => 0)))]) dX0_init_15 lkX0_init_4 rfl rfl (fun _ _ h => h) (fun _ => rfl) (by decide) (by decide) (Nat.le_of_ble_eq_true rfl) (Nat.le_of_ble_eq_true rfl) (Nat.le_of_ble_eq_true rfl) (fun _ => rfl) (fun q15 => ?_)
  refine q_putF C 0 1 [(h0, .inr (0, [.ref (q7), .ref (q15), .int 0])), (q7, .inl (cI, 20, .inl (fun _ => 0))), (q15, .inl (cI, 20, .inl (fun _ => 0)))] hin dX0_init_17 rfl rfl (Nat.le_of_ble_eq_true rfl) inX0_init_X0 tyX0 tyX0_ok nmX0 lkX0_init_6 rfl rfl rfl rfl rfl (Nat.le_of_ble_eq_true rfl) rfl ?_
  refine q_widen (cs1 := 2) (ss1 := 40) (Nat.le_of_ble_eq_true rfl) (Nat.le_of_ble_eq_true rfl) ?_
  exact hret (fun k i => (([[h0, q7, q15]] : List (List Nat)).getD k []).getD i 0) _ _ rfl dX0_init_20

theorem lkX1_init_1 : Cond.methodLink RX1 1 objectInit ∈ wsX1_init := List.mem_of_getElem? (i := 1) rfl
theorem lkX1_init_2 : Cond.instanceMethod objectInit ∈ wsX1_init := List.mem_of_getElem? (i := 2) rfl
theorem lkX1_init_3 : Cond.code objectInit ⟨#[0xb1]⟩ 1 none ∈ wsX1_init := List.mem_of_getElem? (i := 3) rfl
abbrev rmX1_init : Room := { frames := 1, cells := 0, slots := 0, locals := 12 }
theorem hdX1_init : yX1_init.cls ≠ "java/lang/invoke/MethodHandle" ∧ yX1_init.cls ≠ "java/lang/invoke/VarHandle" ∧ (parseMethodDescriptor yX1_init.desc).map (fun d => d.parameters.length) = some 0 := by decide +kernel
set_option maxRecDepth 100000 in
set_option maxHeartbeats 8000000 in
theorem kX1_init (l : Launch) (D : va_G) (cI cJ cZ cN cM : ClassId) (h0 : Nat) : MetN l yX1_init wsX1_init rmX1_init D (TYL cI cJ cZ cN cM) h0 [(h0, .inr (1, [.int 0]))] (fun u => dW cI cJ cZ cN cM (u 0) 0) 0 0 := by
  refine MetN.mk (cc := cX1_init) (maxL := 1) (own := RX1) (by decide +kernel) rfl rfl rfl (Nat.le_of_ble_eq_true rfl) ?_
  intro p e s m args below meth c A Q C hin hret
  refine q_aload_n C 0 dX1_init_0 rfl ?_
  refine q_objInit C dX1_init_1 lkX1_init_1 lkX1_init_2 lkX1_init_3 (Nat.le_of_ble_eq_true rfl) (Nat.le_of_ble_eq_true rfl) ?_
  refine q_widen (cs1 := 0) (ss1 := 0) (Nat.le_of_ble_eq_true rfl) (Nat.le_of_ble_eq_true rfl) ?_
  exact hret (fun k i => (([[h0]] : List (List Nat)).getD k []).getD i 0) _ _ rfl dX1_init_4

theorem lkX6_init_1 : Cond.methodLink RX6 3 objectInit ∈ wsX6_init := List.mem_of_getElem? (i := 1) rfl
theorem lkX6_init_2 : Cond.instanceMethod objectInit ∈ wsX6_init := List.mem_of_getElem? (i := 2) rfl
theorem lkX6_init_3 : Cond.code objectInit ⟨#[0xb1]⟩ 1 none ∈ wsX6_init := List.mem_of_getElem? (i := 3) rfl
theorem lkX6_init_4 : Cond.arrayClass .int ∈ wsX6_init := List.mem_of_getElem? (i := 4) rfl
theorem lkX6_init_5 : Cond.fieldLink RX6 9 "TwiceHeard$Telling" "ring" "[I" ∈ wsX6_init := List.mem_of_getElem? (i := 5) rfl
theorem lkX6_init_6 : Cond.fieldLink RX6 15 "TwiceHeard$Telling" "ringSets" "[I" ∈ wsX6_init := List.mem_of_getElem? (i := 6) rfl
theorem lkX6_init_7 : Cond.fieldLink RX6 18 "TwiceHeard$Telling" "from" "[I" ∈ wsX6_init := List.mem_of_getElem? (i := 7) rfl
theorem lkX6_init_8 : Cond.fieldLink RX6 21 "TwiceHeard$Telling" "to" "[I" ∈ wsX6_init := List.mem_of_getElem? (i := 8) rfl
theorem lkX6_init_9 : Cond.arrayClass .boolean ∈ wsX6_init := List.mem_of_getElem? (i := 9) rfl
theorem lkX6_init_10 : Cond.fieldLink RX6 24 "TwiceHeard$Telling" "comes" "[Z" ∈ wsX6_init := List.mem_of_getElem? (i := 10) rfl
theorem lkX6_init_11 : Cond.fieldLink RX6 28 "TwiceHeard$Telling" "ways" "[I" ∈ wsX6_init := List.mem_of_getElem? (i := 11) rfl
theorem lkX6_init_12 : Cond.fieldLink RX6 31 "TwiceHeard$Telling" "arrivals" "[I" ∈ wsX6_init := List.mem_of_getElem? (i := 12) rfl
theorem lkX6_init_13 : Cond.arrayClass .long ∈ wsX6_init := List.mem_of_getElem? (i := 13) rfl
theorem lkX6_init_14 : Cond.fieldLink RX6 34 "TwiceHeard$Telling" "held" "[J" ∈ wsX6_init := List.mem_of_getElem? (i := 14) rfl
theorem inX6_init_X6 : ∀ w ∈ wsX60, w ∈ wsX6_init := fun w h => List.mem_cons_of_mem _ (List.mem_append_right _ h)
abbrev rmX6_init : Room := { frames := 1, cells := 8, slots := 153, locals := 12 }
theorem hdX6_init : yX6_init.cls ≠ "java/lang/invoke/MethodHandle" ∧ yX6_init.cls ≠ "java/lang/invoke/VarHandle" ∧ (parseMethodDescriptor yX6_init.desc).map (fun d => d.parameters.length) = some 0 := by decide +kernel
set_option maxRecDepth 100000 in
set_option maxHeartbeats 8000000 in
theorem kX6_init (l : Launch) (D : va_G) (cI cJ cZ cN cM : ClassId) (h0 : Nat) : MetN l yX6_init wsX6_init rmX6_init D (TYL cI cJ cZ cN cM) h0 [(h0, .inr (5, [.null, .null, .int 0, .null, .null, .null, .int 0, .null, .null, .null]))] (fun u => tW cI cJ cZ cN cM (u 0) (fun _ => 0) (fun _ => 0) 0 (fun _ => 0) (fun _ => 0) (fun _ => 0) 0 (fun _ => 0) (fun _ => 0) (fun _ => 0)) 8 153 := by
  refine MetN.mk (cc := cX6_init) (maxL := 1) (own := RX6) (by decide +kernel) rfl rfl rfl (Nat.le_of_ble_eq_true rfl) ?_
  intro p e s m args below meth c A Q C hin hret
  refine q_aload_n C 0 dX6_init_0 rfl ?_
  refine q_objInit C dX6_init_1 lkX6_init_1 lkX6_init_2 lkX6_init_3 (Nat.le_of_ble_eq_true rfl) (Nat.le_of_ble_eq_true rfl) ?_
  refine q_aload_n C 0 dX6_init_4 rfl ?_
  refine q_bipush C 9 dX6_init_5 (by decide) ?_
  refine q_newa C (atype := .int) (ty := .int) (a0 := (9, .inl (fun _ => 0))) (N1 := 9) 0 (fun q7 => [(h0, .inr (5, [.null, .null, .int 0, .null, .null, .null, .int 0, .null, .null, .null])), (q7, .inl (cI, 9, .inl (fun _ => 0)))]) dX6_init_7 lkX6_init_4 rfl rfl (fun _ _ h => h) (fun _ => rfl) (by decide) (by decide) (Nat.le_of_ble_eq_true rfl) (Nat.le_of_ble_eq_true rfl) (Nat.le_of_ble_eq_true rfl) (fun _ => rfl) (fun q7 => ?_)
  refine q_putF C 0 0 [(h0, .inr (5, [.ref (q7), .null, .int 0, .null, .null, .null, .int 0, .null, .null, .null])), (q7, .inl (cI, 9, .inl (fun _ => 0)))] hin dX6_init_9 rfl rfl (Nat.le_of_ble_eq_true rfl) inX6_init_X6 tyX6 tyX6_ok nmX6 lkX6_init_5 rfl rfl rfl rfl rfl (Nat.le_of_ble_eq_true rfl) rfl ?_
  refine q_aload_n C 0 dX6_init_12 rfl ?_
  refine q_bipush C 9 dX6_init_13 (by decide) ?_
  refine q_newa C (atype := .int) (ty := .int) (a0 := (9, .inl (fun _ => 0))) (N1 := 9) 0 (fun q15 => [(h0, .inr (5, [.ref (q7), .null, .int 0, .null, .null, .null, .int 0, .null, .null, .null])), (q7, .inl (cI, 9, .inl (fun _ => 0))), (q15, .inl (cI, 9, .inl (fun _ => 0)))]) dX6_init_15 lkX6_init_4 rfl rfl (fun _ _ h => h) (fun _ => rfl) (by decide) (by decide) (Nat.le_of_ble_eq_true rfl) (Nat.le_of_ble_eq_true rfl) (Nat.le_of_ble_eq_true rfl) (fun _ => rfl) (fun q15 => ?_)
  refine q_putF C 0 1 [(h0, .inr (5, [.ref (q7), .ref (q15), .int 0, .null, .null, .null, .int 0, .null, .null, .null])), (q7, .inl (cI, 9, .inl (fun _ => 0))), (q15, .inl (cI, 9, .inl (fun _ => 0)))] hin dX6_init_17 rfl rfl (Nat.le_of_ble_eq_true rfl) inX6_init_X6 tyX6 tyX6_ok nmX6 lkX6_init_6 rfl rfl rfl rfl rfl (Nat.le_of_ble_eq_true rfl) rfl ?_
  refine q_aload_n C 0 dX6_init_20 rfl ?_
  refine q_bipush C 36 dX6_init_21 (by decide) ?_
  refine q_newa C (atype := .int) (ty := .int) (a0 := (36, .inl (fun _ => 0))) (N1 := 36) 0 (fun q23 => [(h0, .inr (5, [.ref (q7), .ref (q15), .int 0, .null, .null, .null, .int 0, .null, .null, .null])), (q7, .inl (cI, 9, .inl (fun _ => 0))), (q15, .inl (cI, 9, .inl (fun _ => 0))), (q23, .inl (cI, 36, .inl (fun _ => 0)))]) dX6_init_23 lkX6_init_4 rfl rfl (fun _ _ h => h) (fun _ => rfl) (by decide) (by decide) (Nat.le_of_ble_eq_true rfl) (Nat.le_of_ble_eq_true rfl) (Nat.le_of_ble_eq_true rfl) (fun _ => rfl) (fun q23 => ?_)
  refine q_putF C 0 3 [(h0, .inr (5, [.ref (q7), .ref (q15), .int 0, .ref (q23), .null, .null, .int 0, .null, .null, .null])), (q7, .inl (cI, 9, .inl (fun _ => 0))), (q15, .inl (cI, 9, .inl (fun _ => 0))), (q23, .inl (cI, 36, .inl (fun _ => 0)))] hin dX6_init_25 rfl rfl (Nat.le_of_ble_eq_true rfl) inX6_init_X6 tyX6 tyX6_ok nmX6 lkX6_init_7 rfl rfl rfl rfl rfl (Nat.le_of_ble_eq_true rfl) rfl ?_
  refine q_aload_n C 0 dX6_init_28 rfl ?_
  refine q_bipush C 36 dX6_init_29 (by decide) ?_
  refine q_newa C (atype := .int) (ty := .int) (a0 := (36, .inl (fun _ => 0))) (N1 := 36) 0 (fun q31 => [(h0, .inr (5, [.ref (q7), .ref (q15), .int 0, .ref (q23), .null, .null, .int 0, .null, .null, .null])), (q7, .inl (cI, 9, .inl (fun _ => 0))), (q15, .inl (cI, 9, .inl (fun _ => 0))), (q23, .inl (cI, 36, .inl (fun _ => 0))), (q31, .inl (cI, 36, .inl (fun _ => 0)))]) dX6_init_31 lkX6_init_4 rfl rfl (fun _ _ h => h) (fun _ => rfl) (by decide) (by decide) (Nat.le_of_ble_eq_true rfl) (Nat.le_of_ble_eq_true rfl) (Nat.le_of_ble_eq_true rfl) (fun _ => rfl) (fun q31 => ?_)
  refine q_putF C 0 4 [(h0, .inr (5, [.ref (q7), .ref (q15), .int 0, .ref (q23), .ref (q31), .null, .int 0, .null, .null, .null])), (q7, .inl (cI, 9, .inl (fun _ => 0))), (q15, .inl (cI, 9, .inl (fun _ => 0))), (q23, .inl (cI, 36, .inl (fun _ => 0))), (q31, .inl (cI, 36, .inl (fun _ => 0)))] hin dX6_init_33 rfl rfl (Nat.le_of_ble_eq_true rfl) inX6_init_X6 tyX6 tyX6_ok nmX6 lkX6_init_8 rfl rfl rfl rfl rfl (Nat.le_of_ble_eq_true rfl) rfl ?_
  refine q_aload_n C 0 dX6_init_36 rfl ?_
  refine q_bipush C 36 dX6_init_37 (by decide) ?_
  refine q_newa C (atype := .boolean) (ty := .boolean) (a0 := (36, .inl (fun _ => 0))) (N1 := 36) 2 (fun q39 => [(h0, .inr (5, [.ref (q7), .ref (q15), .int 0, .ref (q23), .ref (q31), .null, .int 0, .null, .null, .null])), (q7, .inl (cI, 9, .inl (fun _ => 0))), (q15, .inl (cI, 9, .inl (fun _ => 0))), (q23, .inl (cI, 36, .inl (fun _ => 0))), (q31, .inl (cI, 36, .inl (fun _ => 0))), (q39, .inl (cZ, 36, .inl (fun _ => 0)))]) dX6_init_39 lkX6_init_9 rfl rfl (fun _ _ h => h) (fun _ => rfl) (by decide) (by decide) (Nat.le_of_ble_eq_true rfl) (Nat.le_of_ble_eq_true rfl) (Nat.le_of_ble_eq_true rfl) (fun _ => rfl) (fun q39 => ?_)
  refine q_putF C 0 5 [(h0, .inr (5, [.ref (q7), .ref (q15), .int 0, .ref (q23), .ref (q31), .ref (q39), .int 0, .null, .null, .null])), (q7, .inl (cI, 9, .inl (fun _ => 0))), (q15, .inl (cI, 9, .inl (fun _ => 0))), (q23, .inl (cI, 36, .inl (fun _ => 0))), (q31, .inl (cI, 36, .inl (fun _ => 0))), (q39, .inl (cZ, 36, .inl (fun _ => 0)))] hin dX6_init_41 rfl rfl (Nat.le_of_ble_eq_true rfl) inX6_init_X6 tyX6 tyX6_ok nmX6 lkX6_init_10 rfl rfl rfl rfl rfl (Nat.le_of_ble_eq_true rfl) rfl ?_
  refine q_aload_n C 0 dX6_init_44 rfl ?_
  refine q_bipush C 9 dX6_init_45 (by decide) ?_
  refine q_newa C (atype := .int) (ty := .int) (a0 := (9, .inl (fun _ => 0))) (N1 := 9) 0 (fun q47 => [(h0, .inr (5, [.ref (q7), .ref (q15), .int 0, .ref (q23), .ref (q31), .ref (q39), .int 0, .null, .null, .null])), (q7, .inl (cI, 9, .inl (fun _ => 0))), (q15, .inl (cI, 9, .inl (fun _ => 0))), (q23, .inl (cI, 36, .inl (fun _ => 0))), (q31, .inl (cI, 36, .inl (fun _ => 0))), (q39, .inl (cZ, 36, .inl (fun _ => 0))), (q47, .inl (cI, 9, .inl (fun _ => 0)))]) dX6_init_47 lkX6_init_4 rfl rfl (fun _ _ h => h) (fun _ => rfl) (by decide) (by decide) (Nat.le_of_ble_eq_true rfl) (Nat.le_of_ble_eq_true rfl) (Nat.le_of_ble_eq_true rfl) (fun _ => rfl) (fun q47 => ?_)
  refine q_putF C 0 7 [(h0, .inr (5, [.ref (q7), .ref (q15), .int 0, .ref (q23), .ref (q31), .ref (q39), .int 0, .ref (q47), .null, .null])), (q7, .inl (cI, 9, .inl (fun _ => 0))), (q15, .inl (cI, 9, .inl (fun _ => 0))), (q23, .inl (cI, 36, .inl (fun _ => 0))), (q31, .inl (cI, 36, .inl (fun _ => 0))), (q39, .inl (cZ, 36, .inl (fun _ => 0))), (q47, .inl (cI, 9, .inl (fun _ => 0)))] hin dX6_init_49 rfl rfl (Nat.le_of_ble_eq_true rfl) inX6_init_X6 tyX6 tyX6_ok nmX6 lkX6_init_11 rfl rfl rfl rfl rfl (Nat.le_of_ble_eq_true rfl) rfl ?_
  refine q_aload_n C 0 dX6_init_52 rfl ?_
  refine q_bipush C 9 dX6_init_53 (by decide) ?_
  refine q_newa C (atype := .int) (ty := .int) (a0 := (9, .inl (fun _ => 0))) (N1 := 9) 0 (fun q55 => [(h0, .inr (5, [.ref (q7), .ref (q15), .int 0, .ref (q23), .ref (q31), .ref (q39), .int 0, .ref (q47), .null, .null])), (q7, .inl (cI, 9, .inl (fun _ => 0))), (q15, .inl (cI, 9, .inl (fun _ => 0))), (q23, .inl (cI, 36, .inl (fun _ => 0))), (q31, .inl (cI, 36, .inl (fun _ => 0))), (q39, .inl (cZ, 36, .inl (fun _ => 0))), (q47, .inl (cI, 9, .inl (fun _ => 0))), (q55, .inl (cI, 9, .inl (fun _ => 0)))]) dX6_init_55 lkX6_init_4 rfl rfl (fun _ _ h => h) (fun _ => rfl) (by decide) (by decide) (Nat.le_of_ble_eq_true rfl) (Nat.le_of_ble_eq_true rfl) (Nat.le_of_ble_eq_true rfl) (fun _ => rfl) (fun q55 => ?_)
  refine q_putF C 0 8 [(h0, .inr (5, [.ref (q7), .ref (q15), .int 0, .ref (q23), .ref (q31), .ref (q39), .int 0, .ref (q47), .ref (q55), .null])), (q7, .inl (cI, 9, .inl (fun _ => 0))), (q15, .inl (cI, 9, .inl (fun _ => 0))), (q23, .inl (cI, 36, .inl (fun _ => 0))), (q31, .inl (cI, 36, .inl (fun _ => 0))), (q39, .inl (cZ, 36, .inl (fun _ => 0))), (q47, .inl (cI, 9, .inl (fun _ => 0))), (q55, .inl (cI, 9, .inl (fun _ => 0)))] hin dX6_init_57 rfl rfl (Nat.le_of_ble_eq_true rfl) inX6_init_X6 tyX6 tyX6_ok nmX6 lkX6_init_12 rfl rfl rfl rfl rfl (Nat.le_of_ble_eq_true rfl) rfl ?_
  refine q_aload_n C 0 dX6_init_60 rfl ?_
  refine q_bipush C 9 dX6_init_61 (by decide) ?_
  refine q_newa C (atype := .long) (ty := .long) (a0 := (9, .inr (.inl (fun _ => 0)))) (N1 := 9) 1 (fun q63 => [(h0, .inr (5, [.ref (q7), .ref (q15), .int 0, .ref (q23), .ref (q31), .ref (q39), .int 0, .ref (q47), .ref (q55), .null])), (q7, .inl (cI, 9, .inl (fun _ => 0))), (q15, .inl (cI, 9, .inl (fun _ => 0))), (q23, .inl (cI, 36, .inl (fun _ => 0))), (q31, .inl (cI, 36, .inl (fun _ => 0))), (q39, .inl (cZ, 36, .inl (fun _ => 0))), (q47, .inl (cI, 9, .inl (fun _ => 0))), (q55, .inl (cI, 9, .inl (fun _ => 0))), (q63, .inl (cJ, 9, .inr (.inl (fun _ => 0))))]) dX6_init_63 lkX6_init_13 rfl rfl (fun _ _ h => h) (fun _ => rfl) (by decide) (by decide) (Nat.le_of_ble_eq_true rfl) (Nat.le_of_ble_eq_true rfl) (Nat.le_of_ble_eq_true rfl) (fun _ => rfl) (fun q63 => ?_)
  refine q_putF C 0 9 [(h0, .inr (5, [.ref (q7), .ref (q15), .int 0, .ref (q23), .ref (q31), .ref (q39), .int 0, .ref (q47), .ref (q55), .ref (q63)])), (q7, .inl (cI, 9, .inl (fun _ => 0))), (q15, .inl (cI, 9, .inl (fun _ => 0))), (q23, .inl (cI, 36, .inl (fun _ => 0))), (q31, .inl (cI, 36, .inl (fun _ => 0))), (q39, .inl (cZ, 36, .inl (fun _ => 0))), (q47, .inl (cI, 9, .inl (fun _ => 0))), (q55, .inl (cI, 9, .inl (fun _ => 0))), (q63, .inl (cJ, 9, .inr (.inl (fun _ => 0))))] hin dX6_init_65 rfl rfl (Nat.le_of_ble_eq_true rfl) inX6_init_X6 tyX6 tyX6_ok nmX6 lkX6_init_14 rfl rfl rfl rfl rfl (Nat.le_of_ble_eq_true rfl) rfl ?_
  refine q_widen (cs1 := 8) (ss1 := 153) (Nat.le_of_ble_eq_true rfl) (Nat.le_of_ble_eq_true rfl) ?_
  exact hret (fun k i => (([[h0, q7, q15, q23, q31, q39, q47, q55, q63]] : List (List Nat)).getD k []).getD i 0) _ _ rfl dX6_init_68

theorem lkX8_init_1 : Cond.methodLink RX8 3 objectInit ∈ wsX8_init := List.mem_of_getElem? (i := 1) rfl
theorem lkX8_init_2 : Cond.instanceMethod objectInit ∈ wsX8_init := List.mem_of_getElem? (i := 2) rfl
theorem lkX8_init_3 : Cond.code objectInit ⟨#[0xb1]⟩ 1 none ∈ wsX8_init := List.mem_of_getElem? (i := 3) rfl
theorem lkX8_init_4 : Cond.arrayClass .int ∈ wsX8_init := List.mem_of_getElem? (i := 4) rfl
theorem lkX8_init_5 : Cond.fieldLink RX8 9 "TwiceHeardModel" "w" "[I" ∈ wsX8_init := List.mem_of_getElem? (i := 5) rfl
theorem lkX8_init_6 : Cond.fieldLink RX8 13 "TwiceHeardModel" "keptSeed" "[I" ∈ wsX8_init := List.mem_of_getElem? (i := 6) rfl
theorem lkX8_init_7 : Cond.fieldLink RX8 16 "TwiceHeardModel" "bookOf" "[I" ∈ wsX8_init := List.mem_of_getElem? (i := 7) rfl
theorem lkX8_init_8 : Cond.fieldLink RX8 19 "TwiceHeardModel" "bookIs" "[I" ∈ wsX8_init := List.mem_of_getElem? (i := 8) rfl
theorem lkX8_init_9 : Cond.fieldLink RX8 22 "TwiceHeardModel" "ring" "[I" ∈ wsX8_init := List.mem_of_getElem? (i := 9) rfl
theorem lkX8_init_10 : Cond.fieldLink RX8 25 "TwiceHeardModel" "from" "[I" ∈ wsX8_init := List.mem_of_getElem? (i := 10) rfl
theorem lkX8_init_11 : Cond.fieldLink RX8 28 "TwiceHeardModel" "to" "[I" ∈ wsX8_init := List.mem_of_getElem? (i := 11) rfl
theorem lkX8_init_12 : Cond.fieldLink RX8 31 "TwiceHeardModel" "ways" "[I" ∈ wsX8_init := List.mem_of_getElem? (i := 12) rfl
theorem lkX8_init_13 : Cond.arrayClass .long ∈ wsX8_init := List.mem_of_getElem? (i := 13) rfl
theorem lkX8_init_14 : Cond.fieldLink RX8 34 "TwiceHeardModel" "held" "[J" ∈ wsX8_init := List.mem_of_getElem? (i := 14) rfl
theorem lkX8_init_15 : Cond.fieldLink RX8 38 "TwiceHeardModel" "six" "[I" ∈ wsX8_init := List.mem_of_getElem? (i := 15) rfl
theorem lkX8_init_16 : Cond.fieldLink RX8 41 "TwiceHeardModel" "by" "[J" ∈ wsX8_init := List.mem_of_getElem? (i := 16) rfl
theorem lkX8_init_17 : Cond.fieldLink RX8 44 "TwiceHeardModel" "more" "[J" ∈ wsX8_init := List.mem_of_getElem? (i := 17) rfl
theorem inX8_init_X8 : ∀ w ∈ wsX80, w ∈ wsX8_init := fun w h => List.mem_cons_of_mem _ (List.mem_append_right _ h)
abbrev rmX8_init : Room := { frames := 1, cells := 12, slots := 1237, locals := 12 }
theorem hdX8_init : yX8_init.cls ≠ "java/lang/invoke/MethodHandle" ∧ yX8_init.cls ≠ "java/lang/invoke/VarHandle" ∧ (parseMethodDescriptor yX8_init.desc).map (fun d => d.parameters.length) = some 0 := by decide +kernel
set_option maxRecDepth 100000 in
set_option maxHeartbeats 8000000 in
theorem kX8_init (l : Launch) (D : va_G) (cI cJ cZ cN cM : ClassId) (h0 : Nat) : MetN l yX8_init wsX8_init rmX8_init D (TYL cI cJ cZ cN cM) h0 [(h0, .inr (7, [.null, .int 0, .int 0, .int 0, .null, .null, .null, .int 0, .null, .null, .null, .int 0, .null, .null, .null, .null, .null]))] (fun u => mW cI cJ cZ cN cM (u 0) (upd (fun _ => 0) 0 1) 0 0 0 (fun _ => 0) (fun _ => 0) (fun _ => 0) 0 (fun _ => 0) (fun _ => 0) (fun _ => 0) 0 (fun _ => 0) (fun _ => 0) (fun _ => 0) (fun _ => 0) (fun _ => 0)) 12 1237 := by
  refine MetN.mk (cc := cX8_init) (maxL := 1) (own := RX8) (by decide +kernel) rfl rfl rfl (Nat.le_of_ble_eq_true rfl) ?_
  intro p e s m args below meth c A Q C hin hret
  refine q_aload_n C 0 dX8_init_0 rfl ?_
  refine q_objInit C dX8_init_1 lkX8_init_1 lkX8_init_2 lkX8_init_3 (Nat.le_of_ble_eq_true rfl) (Nat.le_of_ble_eq_true rfl) ?_
  refine q_aload_n C 0 dX8_init_4 rfl ?_
  refine q_sipush C 570 dX8_init_5 (by decide) ?_
  refine q_newa C (atype := .int) (ty := .int) (a0 := (570, .inl (fun _ => 0))) (N1 := 570) 0 (fun q8 => [(h0, .inr (7, [.null, .int 0, .int 0, .int 0, .null, .null, .null, .int 0, .null, .null, .null, .int 0, .null, .null, .null, .null, .null])), (q8, .inl (cI, 570, .inl (fun _ => 0)))]) dX8_init_8 lkX8_init_4 rfl rfl (fun _ _ h => h) (fun _ => rfl) (by decide) (by decide) (Nat.le_of_ble_eq_true rfl) (Nat.le_of_ble_eq_true rfl) (Nat.le_of_ble_eq_true rfl) (fun _ => rfl) (fun q8 => ?_)
  refine q_putF C 0 0 [(h0, .inr (7, [.ref (q8), .int 0, .int 0, .int 0, .null, .null, .null, .int 0, .null, .null, .null, .int 0, .null, .null, .null, .null, .null])), (q8, .inl (cI, 570, .inl (fun _ => 0)))] hin dX8_init_10 rfl rfl (Nat.le_of_ble_eq_true rfl) inX8_init_X8 tyX8 tyX8_ok nmX8 lkX8_init_5 rfl rfl rfl rfl rfl (Nat.le_of_ble_eq_true rfl) rfl ?_
  refine q_aload_n C 0 dX8_init_13 rfl ?_
  refine q_iconst C 2 dX8_init_14 (by decide) ?_
  refine q_newa C (atype := .int) (ty := .int) (a0 := (2, .inl (fun _ => 0))) (N1 := 2) 0 (fun q15 => [(h0, .inr (7, [.ref (q8), .int 0, .int 0, .int 0, .null, .null, .null, .int 0, .null, .null, .null, .int 0, .null, .null, .null, .null, .null])), (q8, .inl (cI, 570, .inl (fun _ => 0))), (q15, .inl (cI, 2, .inl (fun _ => 0)))]) dX8_init_15 lkX8_init_4 rfl rfl (fun _ _ h => h) (fun _ => rfl) (by decide) (by decide) (Nat.le_of_ble_eq_true rfl) (Nat.le_of_ble_eq_true rfl) (Nat.le_of_ble_eq_true rfl) (fun _ => rfl) (fun q15 => ?_)
  refine q_putF C 0 4 [(h0, .inr (7, [.ref (q8), .int 0, .int 0, .int 0, .ref (q15), .null, .null, .int 0, .null, .null, .null, .int 0, .null, .null, .null, .null, .null])), (q8, .inl (cI, 570, .inl (fun _ => 0))), (q15, .inl (cI, 2, .inl (fun _ => 0)))] hin dX8_init_17 rfl rfl (Nat.le_of_ble_eq_true rfl) inX8_init_X8 tyX8 tyX8_ok nmX8 lkX8_init_6 rfl rfl rfl rfl rfl (Nat.le_of_ble_eq_true rfl) rfl ?_
  refine q_aload_n C 0 dX8_init_20 rfl ?_
  refine q_bipush C 20 dX8_init_21 (by decide) ?_
  refine q_newa C (atype := .int) (ty := .int) (a0 := (20, .inl (fun _ => 0))) (N1 := 20) 0 (fun q23 => [(h0, .inr (7, [.ref (q8), .int 0, .int 0, .int 0, .ref (q15), .null, .null, .int 0, .null, .null, .null, .int 0, .null, .null, .null, .null, .null])), (q8, .inl (cI, 570, .inl (fun _ => 0))), (q15, .inl (cI, 2, .inl (fun _ => 0))), (q23, .inl (cI, 20, .inl (fun _ => 0)))]) dX8_init_23 lkX8_init_4 rfl rfl (fun _ _ h => h) (fun _ => rfl) (by decide) (by decide) (Nat.le_of_ble_eq_true rfl) (Nat.le_of_ble_eq_true rfl) (Nat.le_of_ble_eq_true rfl) (fun _ => rfl) (fun q23 => ?_)
  refine q_putF C 0 5 [(h0, .inr (7, [.ref (q8), .int 0, .int 0, .int 0, .ref (q15), .ref (q23), .null, .int 0, .null, .null, .null, .int 0, .null, .null, .null, .null, .null])), (q8, .inl (cI, 570, .inl (fun _ => 0))), (q15, .inl (cI, 2, .inl (fun _ => 0))), (q23, .inl (cI, 20, .inl (fun _ => 0)))] hin dX8_init_25 rfl rfl (Nat.le_of_ble_eq_true rfl) inX8_init_X8 tyX8 tyX8_ok nmX8 lkX8_init_7 rfl rfl rfl rfl rfl (Nat.le_of_ble_eq_true rfl) rfl ?_
  refine q_aload_n C 0 dX8_init_28 rfl ?_
  refine q_bipush C 20 dX8_init_29 (by decide) ?_
  refine q_newa C (atype := .int) (ty := .int) (a0 := (20, .inl (fun _ => 0))) (N1 := 20) 0 (fun q31 => [(h0, .inr (7, [.ref (q8), .int 0, .int 0, .int 0, .ref (q15), .ref (q23), .null, .int 0, .null, .null, .null, .int 0, .null, .null, .null, .null, .null])), (q8, .inl (cI, 570, .inl (fun _ => 0))), (q15, .inl (cI, 2, .inl (fun _ => 0))), (q23, .inl (cI, 20, .inl (fun _ => 0))), (q31, .inl (cI, 20, .inl (fun _ => 0)))]) dX8_init_31 lkX8_init_4 rfl rfl (fun _ _ h => h) (fun _ => rfl) (by decide) (by decide) (Nat.le_of_ble_eq_true rfl) (Nat.le_of_ble_eq_true rfl) (Nat.le_of_ble_eq_true rfl) (fun _ => rfl) (fun q31 => ?_)
  refine q_putF C 0 6 [(h0, .inr (7, [.ref (q8), .int 0, .int 0, .int 0, .ref (q15), .ref (q23), .ref (q31), .int 0, .null, .null, .null, .int 0, .null, .null, .null, .null, .null])), (q8, .inl (cI, 570, .inl (fun _ => 0))), (q15, .inl (cI, 2, .inl (fun _ => 0))), (q23, .inl (cI, 20, .inl (fun _ => 0))), (q31, .inl (cI, 20, .inl (fun _ => 0)))] hin dX8_init_33 rfl rfl (Nat.le_of_ble_eq_true rfl) inX8_init_X8 tyX8 tyX8_ok nmX8 lkX8_init_8 rfl rfl rfl rfl rfl (Nat.le_of_ble_eq_true rfl) rfl ?_
  refine q_aload_n C 0 dX8_init_36 rfl ?_
  refine q_bipush C 9 dX8_init_37 (by decide) ?_
  refine q_newa C (atype := .int) (ty := .int) (a0 := (9, .inl (fun _ => 0))) (N1 := 9) 0 (fun q39 => [(h0, .inr (7, [.ref (q8), .int 0, .int 0, .int 0, .ref (q15), .ref (q23), .ref (q31), .int 0, .null, .null, .null, .int 0, .null, .null, .null, .null, .null])), (q8, .inl (cI, 570, .inl (fun _ => 0))), (q15, .inl (cI, 2, .inl (fun _ => 0))), (q23, .inl (cI, 20, .inl (fun _ => 0))), (q31, .inl (cI, 20, .inl (fun _ => 0))), (q39, .inl (cI, 9, .inl (fun _ => 0)))]) dX8_init_39 lkX8_init_4 rfl rfl (fun _ _ h => h) (fun _ => rfl) (by decide) (by decide) (Nat.le_of_ble_eq_true rfl) (Nat.le_of_ble_eq_true rfl) (Nat.le_of_ble_eq_true rfl) (fun _ => rfl) (fun q39 => ?_)
  refine q_putF C 0 8 [(h0, .inr (7, [.ref (q8), .int 0, .int 0, .int 0, .ref (q15), .ref (q23), .ref (q31), .int 0, .ref (q39), .null, .null, .int 0, .null, .null, .null, .null, .null])), (q8, .inl (cI, 570, .inl (fun _ => 0))), (q15, .inl (cI, 2, .inl (fun _ => 0))), (q23, .inl (cI, 20, .inl (fun _ => 0))), (q31, .inl (cI, 20, .inl (fun _ => 0))), (q39, .inl (cI, 9, .inl (fun _ => 0)))] hin dX8_init_41 rfl rfl (Nat.le_of_ble_eq_true rfl) inX8_init_X8 tyX8 tyX8_ok nmX8 lkX8_init_9 rfl rfl rfl rfl rfl (Nat.le_of_ble_eq_true rfl) rfl ?_
  refine q_aload_n C 0 dX8_init_44 rfl ?_
  refine q_bipush C 40 dX8_init_45 (by decide) ?_
  refine q_newa C (atype := .int) (ty := .int) (a0 := (40, .inl (fun _ => 0))) (N1 := 40) 0 (fun q47 => [(h0, .inr (7, [.ref (q8), .int 0, .int 0, .int 0, .ref (q15), .ref (q23), .ref (q31), .int 0, .ref (q39), .null, .null, .int 0, .null, .null, .null, .null, .null])), (q8, .inl (cI, 570, .inl (fun _ => 0))), (q15, .inl (cI, 2, .inl (fun _ => 0))), (q23, .inl (cI, 20, .inl (fun _ => 0))), (q31, .inl (cI, 20, .inl (fun _ => 0))), (q39, .inl (cI, 9, .inl (fun _ => 0))), (q47, .inl (cI, 40, .inl (fun _ => 0)))]) dX8_init_47 lkX8_init_4 rfl rfl (fun _ _ h => h) (fun _ => rfl) (by decide) (by decide) (Nat.le_of_ble_eq_true rfl) (Nat.le_of_ble_eq_true rfl) (Nat.le_of_ble_eq_true rfl) (fun _ => rfl) (fun q47 => ?_)
  refine q_putF C 0 9 [(h0, .inr (7, [.ref (q8), .int 0, .int 0, .int 0, .ref (q15), .ref (q23), .ref (q31), .int 0, .ref (q39), .ref (q47), .null, .int 0, .null, .null, .null, .null, .null])), (q8, .inl (cI, 570, .inl (fun _ => 0))), (q15, .inl (cI, 2, .inl (fun _ => 0))), (q23, .inl (cI, 20, .inl (fun _ => 0))), (q31, .inl (cI, 20, .inl (fun _ => 0))), (q39, .inl (cI, 9, .inl (fun _ => 0))), (q47, .inl (cI, 40, .inl (fun _ => 0)))] hin dX8_init_49 rfl rfl (Nat.le_of_ble_eq_true rfl) inX8_init_X8 tyX8 tyX8_ok nmX8 lkX8_init_10 rfl rfl rfl rfl rfl (Nat.le_of_ble_eq_true rfl) rfl ?_
  refine q_aload_n C 0 dX8_init_52 rfl ?_
  refine q_bipush C 40 dX8_init_53 (by decide) ?_
  refine q_newa C (atype := .int) (ty := .int) (a0 := (40, .inl (fun _ => 0))) (N1 := 40) 0 (fun q55 => [(h0, .inr (7, [.ref (q8), .int 0, .int 0, .int 0, .ref (q15), .ref (q23), .ref (q31), .int 0, .ref (q39), .ref (q47), .null, .int 0, .null, .null, .null, .null, .null])), (q8, .inl (cI, 570, .inl (fun _ => 0))), (q15, .inl (cI, 2, .inl (fun _ => 0))), (q23, .inl (cI, 20, .inl (fun _ => 0))), (q31, .inl (cI, 20, .inl (fun _ => 0))), (q39, .inl (cI, 9, .inl (fun _ => 0))), (q47, .inl (cI, 40, .inl (fun _ => 0))), (q55, .inl (cI, 40, .inl (fun _ => 0)))]) dX8_init_55 lkX8_init_4 rfl rfl (fun _ _ h => h) (fun _ => rfl) (by decide) (by decide) (Nat.le_of_ble_eq_true rfl) (Nat.le_of_ble_eq_true rfl) (Nat.le_of_ble_eq_true rfl) (fun _ => rfl) (fun q55 => ?_)
  refine q_putF C 0 10 [(h0, .inr (7, [.ref (q8), .int 0, .int 0, .int 0, .ref (q15), .ref (q23), .ref (q31), .int 0, .ref (q39), .ref (q47), .ref (q55), .int 0, .null, .null, .null, .null, .null])), (q8, .inl (cI, 570, .inl (fun _ => 0))), (q15, .inl (cI, 2, .inl (fun _ => 0))), (q23, .inl (cI, 20, .inl (fun _ => 0))), (q31, .inl (cI, 20, .inl (fun _ => 0))), (q39, .inl (cI, 9, .inl (fun _ => 0))), (q47, .inl (cI, 40, .inl (fun _ => 0))), (q55, .inl (cI, 40, .inl (fun _ => 0)))] hin dX8_init_57 rfl rfl (Nat.le_of_ble_eq_true rfl) inX8_init_X8 tyX8 tyX8_ok nmX8 lkX8_init_11 rfl rfl rfl rfl rfl (Nat.le_of_ble_eq_true rfl) rfl ?_
  refine q_aload_n C 0 dX8_init_60 rfl ?_
  refine q_bipush C 9 dX8_init_61 (by decide) ?_
  refine q_newa C (atype := .int) (ty := .int) (a0 := (9, .inl (fun _ => 0))) (N1 := 9) 0 (fun q63 => [(h0, .inr (7, [.ref (q8), .int 0, .int 0, .int 0, .ref (q15), .ref (q23), .ref (q31), .int 0, .ref (q39), .ref (q47), .ref (q55), .int 0, .null, .null, .null, .null, .null])), (q8, .inl (cI, 570, .inl (fun _ => 0))), (q15, .inl (cI, 2, .inl (fun _ => 0))), (q23, .inl (cI, 20, .inl (fun _ => 0))), (q31, .inl (cI, 20, .inl (fun _ => 0))), (q39, .inl (cI, 9, .inl (fun _ => 0))), (q47, .inl (cI, 40, .inl (fun _ => 0))), (q55, .inl (cI, 40, .inl (fun _ => 0))), (q63, .inl (cI, 9, .inl (fun _ => 0)))]) dX8_init_63 lkX8_init_4 rfl rfl (fun _ _ h => h) (fun _ => rfl) (by decide) (by decide) (Nat.le_of_ble_eq_true rfl) (Nat.le_of_ble_eq_true rfl) (Nat.le_of_ble_eq_true rfl) (fun _ => rfl) (fun q63 => ?_)
  refine q_putF C 0 12 [(h0, .inr (7, [.ref (q8), .int 0, .int 0, .int 0, .ref (q15), .ref (q23), .ref (q31), .int 0, .ref (q39), .ref (q47), .ref (q55), .int 0, .ref (q63), .null, .null, .null, .null])), (q8, .inl (cI, 570, .inl (fun _ => 0))), (q15, .inl (cI, 2, .inl (fun _ => 0))), (q23, .inl (cI, 20, .inl (fun _ => 0))), (q31, .inl (cI, 20, .inl (fun _ => 0))), (q39, .inl (cI, 9, .inl (fun _ => 0))), (q47, .inl (cI, 40, .inl (fun _ => 0))), (q55, .inl (cI, 40, .inl (fun _ => 0))), (q63, .inl (cI, 9, .inl (fun _ => 0)))] hin dX8_init_65 rfl rfl (Nat.le_of_ble_eq_true rfl) inX8_init_X8 tyX8 tyX8_ok nmX8 lkX8_init_12 rfl rfl rfl rfl rfl (Nat.le_of_ble_eq_true rfl) rfl ?_
  refine q_aload_n C 0 dX8_init_68 rfl ?_
  refine q_bipush C 9 dX8_init_69 (by decide) ?_
  refine q_newa C (atype := .long) (ty := .long) (a0 := (9, .inr (.inl (fun _ => 0)))) (N1 := 9) 1 (fun q71 => [(h0, .inr (7, [.ref (q8), .int 0, .int 0, .int 0, .ref (q15), .ref (q23), .ref (q31), .int 0, .ref (q39), .ref (q47), .ref (q55), .int 0, .ref (q63), .null, .null, .null, .null])), (q8, .inl (cI, 570, .inl (fun _ => 0))), (q15, .inl (cI, 2, .inl (fun _ => 0))), (q23, .inl (cI, 20, .inl (fun _ => 0))), (q31, .inl (cI, 20, .inl (fun _ => 0))), (q39, .inl (cI, 9, .inl (fun _ => 0))), (q47, .inl (cI, 40, .inl (fun _ => 0))), (q55, .inl (cI, 40, .inl (fun _ => 0))), (q63, .inl (cI, 9, .inl (fun _ => 0))), (q71, .inl (cJ, 9, .inr (.inl (fun _ => 0))))]) dX8_init_71 lkX8_init_13 rfl rfl (fun _ _ h => h) (fun _ => rfl) (by decide) (by decide) (Nat.le_of_ble_eq_true rfl) (Nat.le_of_ble_eq_true rfl) (Nat.le_of_ble_eq_true rfl) (fun _ => rfl) (fun q71 => ?_)
  refine q_putF C 0 13 [(h0, .inr (7, [.ref (q8), .int 0, .int 0, .int 0, .ref (q15), .ref (q23), .ref (q31), .int 0, .ref (q39), .ref (q47), .ref (q55), .int 0, .ref (q63), .ref (q71), .null, .null, .null])), (q8, .inl (cI, 570, .inl (fun _ => 0))), (q15, .inl (cI, 2, .inl (fun _ => 0))), (q23, .inl (cI, 20, .inl (fun _ => 0))), (q31, .inl (cI, 20, .inl (fun _ => 0))), (q39, .inl (cI, 9, .inl (fun _ => 0))), (q47, .inl (cI, 40, .inl (fun _ => 0))), (q55, .inl (cI, 40, .inl (fun _ => 0))), (q63, .inl (cI, 9, .inl (fun _ => 0))), (q71, .inl (cJ, 9, .inr (.inl (fun _ => 0))))] hin dX8_init_73 rfl rfl (Nat.le_of_ble_eq_true rfl) inX8_init_X8 tyX8 tyX8_ok nmX8 lkX8_init_14 rfl rfl rfl rfl rfl (Nat.le_of_ble_eq_true rfl) rfl ?_
  refine q_aload_n C 0 dX8_init_76 rfl ?_
  refine q_bipush C 6 dX8_init_77 (by decide) ?_
  refine q_newa C (atype := .int) (ty := .int) (a0 := (6, .inl (fun _ => 0))) (N1 := 6) 0 (fun q79 => [(h0, .inr (7, [.ref (q8), .int 0, .int 0, .int 0, .ref (q15), .ref (q23), .ref (q31), .int 0, .ref (q39), .ref (q47), .ref (q55), .int 0, .ref (q63), .ref (q71), .null, .null, .null])), (q8, .inl (cI, 570, .inl (fun _ => 0))), (q15, .inl (cI, 2, .inl (fun _ => 0))), (q23, .inl (cI, 20, .inl (fun _ => 0))), (q31, .inl (cI, 20, .inl (fun _ => 0))), (q39, .inl (cI, 9, .inl (fun _ => 0))), (q47, .inl (cI, 40, .inl (fun _ => 0))), (q55, .inl (cI, 40, .inl (fun _ => 0))), (q63, .inl (cI, 9, .inl (fun _ => 0))), (q71, .inl (cJ, 9, .inr (.inl (fun _ => 0)))), (q79, .inl (cI, 6, .inl (fun _ => 0)))]) dX8_init_79 lkX8_init_4 rfl rfl (fun _ _ h => h) (fun _ => rfl) (by decide) (by decide) (Nat.le_of_ble_eq_true rfl) (Nat.le_of_ble_eq_true rfl) (Nat.le_of_ble_eq_true rfl) (fun _ => rfl) (fun q79 => ?_)
  refine q_putF C 0 14 [(h0, .inr (7, [.ref (q8), .int 0, .int 0, .int 0, .ref (q15), .ref (q23), .ref (q31), .int 0, .ref (q39), .ref (q47), .ref (q55), .int 0, .ref (q63), .ref (q71), .ref (q79), .null, .null])), (q8, .inl (cI, 570, .inl (fun _ => 0))), (q15, .inl (cI, 2, .inl (fun _ => 0))), (q23, .inl (cI, 20, .inl (fun _ => 0))), (q31, .inl (cI, 20, .inl (fun _ => 0))), (q39, .inl (cI, 9, .inl (fun _ => 0))), (q47, .inl (cI, 40, .inl (fun _ => 0))), (q55, .inl (cI, 40, .inl (fun _ => 0))), (q63, .inl (cI, 9, .inl (fun _ => 0))), (q71, .inl (cJ, 9, .inr (.inl (fun _ => 0)))), (q79, .inl (cI, 6, .inl (fun _ => 0)))] hin dX8_init_81 rfl rfl (Nat.le_of_ble_eq_true rfl) inX8_init_X8 tyX8 tyX8_ok nmX8 lkX8_init_15 rfl rfl rfl rfl rfl (Nat.le_of_ble_eq_true rfl) rfl ?_
  refine q_aload_n C 0 dX8_init_84 rfl ?_
  refine q_sipush C 256 dX8_init_85 (by decide) ?_
  refine q_newa C (atype := .long) (ty := .long) (a0 := (256, .inr (.inl (fun _ => 0)))) (N1 := 256) 1 (fun q88 => [(h0, .inr (7, [.ref (q8), .int 0, .int 0, .int 0, .ref (q15), .ref (q23), .ref (q31), .int 0, .ref (q39), .ref (q47), .ref (q55), .int 0, .ref (q63), .ref (q71), .ref (q79), .null, .null])), (q8, .inl (cI, 570, .inl (fun _ => 0))), (q15, .inl (cI, 2, .inl (fun _ => 0))), (q23, .inl (cI, 20, .inl (fun _ => 0))), (q31, .inl (cI, 20, .inl (fun _ => 0))), (q39, .inl (cI, 9, .inl (fun _ => 0))), (q47, .inl (cI, 40, .inl (fun _ => 0))), (q55, .inl (cI, 40, .inl (fun _ => 0))), (q63, .inl (cI, 9, .inl (fun _ => 0))), (q71, .inl (cJ, 9, .inr (.inl (fun _ => 0)))), (q79, .inl (cI, 6, .inl (fun _ => 0))), (q88, .inl (cJ, 256, .inr (.inl (fun _ => 0))))]) dX8_init_88 lkX8_init_13 rfl rfl (fun _ _ h => h) (fun _ => rfl) (by decide) (by decide) (Nat.le_of_ble_eq_true rfl) (Nat.le_of_ble_eq_true rfl) (Nat.le_of_ble_eq_true rfl) (fun _ => rfl) (fun q88 => ?_)
  refine q_putF C 0 15 [(h0, .inr (7, [.ref (q8), .int 0, .int 0, .int 0, .ref (q15), .ref (q23), .ref (q31), .int 0, .ref (q39), .ref (q47), .ref (q55), .int 0, .ref (q63), .ref (q71), .ref (q79), .ref (q88), .null])), (q8, .inl (cI, 570, .inl (fun _ => 0))), (q15, .inl (cI, 2, .inl (fun _ => 0))), (q23, .inl (cI, 20, .inl (fun _ => 0))), (q31, .inl (cI, 20, .inl (fun _ => 0))), (q39, .inl (cI, 9, .inl (fun _ => 0))), (q47, .inl (cI, 40, .inl (fun _ => 0))), (q55, .inl (cI, 40, .inl (fun _ => 0))), (q63, .inl (cI, 9, .inl (fun _ => 0))), (q71, .inl (cJ, 9, .inr (.inl (fun _ => 0)))), (q79, .inl (cI, 6, .inl (fun _ => 0))), (q88, .inl (cJ, 256, .inr (.inl (fun _ => 0))))] hin dX8_init_90 rfl rfl (Nat.le_of_ble_eq_true rfl) inX8_init_X8 tyX8 tyX8_ok nmX8 lkX8_init_16 rfl rfl rfl rfl rfl (Nat.le_of_ble_eq_true rfl) rfl ?_
  refine q_aload_n C 0 dX8_init_93 rfl ?_
  refine q_sipush C 256 dX8_init_94 (by decide) ?_
  refine q_newa C (atype := .long) (ty := .long) (a0 := (256, .inr (.inl (fun _ => 0)))) (N1 := 256) 1 (fun q97 => [(h0, .inr (7, [.ref (q8), .int 0, .int 0, .int 0, .ref (q15), .ref (q23), .ref (q31), .int 0, .ref (q39), .ref (q47), .ref (q55), .int 0, .ref (q63), .ref (q71), .ref (q79), .ref (q88), .null])), (q8, .inl (cI, 570, .inl (fun _ => 0))), (q15, .inl (cI, 2, .inl (fun _ => 0))), (q23, .inl (cI, 20, .inl (fun _ => 0))), (q31, .inl (cI, 20, .inl (fun _ => 0))), (q39, .inl (cI, 9, .inl (fun _ => 0))), (q47, .inl (cI, 40, .inl (fun _ => 0))), (q55, .inl (cI, 40, .inl (fun _ => 0))), (q63, .inl (cI, 9, .inl (fun _ => 0))), (q71, .inl (cJ, 9, .inr (.inl (fun _ => 0)))), (q79, .inl (cI, 6, .inl (fun _ => 0))), (q88, .inl (cJ, 256, .inr (.inl (fun _ => 0)))), (q97, .inl (cJ, 256, .inr (.inl (fun _ => 0))))]) dX8_init_97 lkX8_init_13 rfl rfl (fun _ _ h => h) (fun _ => rfl) (by decide) (by decide) (Nat.le_of_ble_eq_true rfl) (Nat.le_of_ble_eq_true rfl) (Nat.le_of_ble_eq_true rfl) (fun _ => rfl) (fun q97 => ?_)
  refine q_putF C 0 16 [(h0, .inr (7, [.ref (q8), .int 0, .int 0, .int 0, .ref (q15), .ref (q23), .ref (q31), .int 0, .ref (q39), .ref (q47), .ref (q55), .int 0, .ref (q63), .ref (q71), .ref (q79), .ref (q88), .ref (q97)])), (q8, .inl (cI, 570, .inl (fun _ => 0))), (q15, .inl (cI, 2, .inl (fun _ => 0))), (q23, .inl (cI, 20, .inl (fun _ => 0))), (q31, .inl (cI, 20, .inl (fun _ => 0))), (q39, .inl (cI, 9, .inl (fun _ => 0))), (q47, .inl (cI, 40, .inl (fun _ => 0))), (q55, .inl (cI, 40, .inl (fun _ => 0))), (q63, .inl (cI, 9, .inl (fun _ => 0))), (q71, .inl (cJ, 9, .inr (.inl (fun _ => 0)))), (q79, .inl (cI, 6, .inl (fun _ => 0))), (q88, .inl (cJ, 256, .inr (.inl (fun _ => 0)))), (q97, .inl (cJ, 256, .inr (.inl (fun _ => 0))))] hin dX8_init_99 rfl rfl (Nat.le_of_ble_eq_true rfl) inX8_init_X8 tyX8 tyX8_ok nmX8 lkX8_init_17 rfl rfl rfl rfl rfl (Nat.le_of_ble_eq_true rfl) rfl ?_
  refine q_aload_n C 0 dX8_init_102 rfl ?_
  refine q_get C 0 0 dX8_init_103 rfl rfl (Nat.le_of_ble_eq_true rfl) inX8_init_X8 lkX8_init_5 rfl rfl ?_
  refine q_iconst C 0 dX8_init_106 (by decide) ?_
  refine q_iconst C 1 dX8_init_107 (by decide) ?_
  refine q_iastC C 1 0 [(h0, .inr (7, [.ref (q8), .int 0, .int 0, .int 0, .ref (q15), .ref (q23), .ref (q31), .int 0, .ref (q39), .ref (q47), .ref (q55), .int 0, .ref (q63), .ref (q71), .ref (q79), .ref (q88), .ref (q97)])), (q8, .inl (cI, 570, .inl (upd (fun _ => 0) 0 1))), (q15, .inl (cI, 2, .inl (fun _ => 0))), (q23, .inl (cI, 20, .inl (fun _ => 0))), (q31, .inl (cI, 20, .inl (fun _ => 0))), (q39, .inl (cI, 9, .inl (fun _ => 0))), (q47, .inl (cI, 40, .inl (fun _ => 0))), (q55, .inl (cI, 40, .inl (fun _ => 0))), (q63, .inl (cI, 9, .inl (fun _ => 0))), (q71, .inl (cJ, 9, .inr (.inl (fun _ => 0)))), (q79, .inl (cI, 6, .inl (fun _ => 0))), (q88, .inl (cJ, 256, .inr (.inl (fun _ => 0)))), (q97, .inl (cJ, 256, .inr (.inl (fun _ => 0))))] dX8_init_108 rfl rfl (by unfold vp_in; decide) rfl ?_
  refine q_widen (cs1 := 12) (ss1 := 1237) (Nat.le_of_ble_eq_true rfl) (Nat.le_of_ble_eq_true rfl) ?_
  exact hret (fun k i => (([[h0, q8, q15, q23, q31, q39, q47, q55, q63, q71, q79, q88, q97]] : List (List Nat)).getD k []).getD i 0) _ _ rfl dX8_init_109

theorem lkX2_init_1 : Cond.methodLink RX2 1 objectInit ∈ wsX2_init := List.mem_of_getElem? (i := 1) rfl
theorem lkX2_init_2 : Cond.instanceMethod objectInit ∈ wsX2_init := List.mem_of_getElem? (i := 2) rfl
theorem lkX2_init_3 : Cond.code objectInit ⟨#[0xb1]⟩ 1 none ∈ wsX2_init := List.mem_of_getElem? (i := 3) rfl
theorem lkX2_init_4 : Cond.classLink RX2 7 RX3 ∈ wsX2_init := List.mem_of_getElem? (i := 4) rfl
theorem lkX2_init_5 : Cond.instantiable RX3 6 ∈ wsX2_init := List.mem_of_getElem? (i := 5) rfl
theorem lkX2_init_6 : Cond.initialized RX3 ∈ wsX2_init := List.mem_of_getElem? (i := 6) rfl
theorem lkX2_init_7 : Cond.fieldLink RX2 10 "TwiceHeard$Image" "net" "LTwiceHeard$Net;" ∈ wsX2_init := List.mem_of_getElem? (i := 7) rfl
theorem lkX2_init_8 : Cond.methodLink RX2 9 yX3_init ∈ wsX2_init := List.mem_of_getElem? (i := 8) rfl
theorem lkX2_init_9 : Cond.instanceMethod yX3_init ∈ wsX2_init := List.mem_of_getElem? (i := 9) rfl
theorem inX2_init_X3 : ∀ w ∈ wsX30, w ∈ wsX2_init := fun w h => List.mem_cons_of_mem _ (List.mem_append_left _ (List.mem_append_right _ h))
theorem inX2_init_X2 : ∀ w ∈ wsX20, w ∈ wsX2_init := fun w h => List.mem_cons_of_mem _ (List.mem_append_right _ h)
abbrev rmX2_init : Room := { frames := 2, cells := 4, slots := 33, locals := 32 }
theorem hdX2_init : yX2_init.cls ≠ "java/lang/invoke/MethodHandle" ∧ yX2_init.cls ≠ "java/lang/invoke/VarHandle" ∧ (parseMethodDescriptor yX2_init.desc).map (fun d => d.parameters.length) = some 0 := by decide +kernel
set_option maxRecDepth 100000 in
set_option maxHeartbeats 8000000 in
theorem kX2_init (l : Launch) (D : va_G) (cI cJ cZ cN cM : ClassId) (h0 : Nat) : MetN l yX2_init wsX2_init rmX2_init D (TYL cI cJ cZ cN cM) h0 [(h0, .inr (2, [.int 0, .int 0, .null]))] (fun u => [(u 0 0, .inr (2, [.int 0, .int 0, .ref (u 0 1)])), (u 0 1, .inr (3, [.int 1, .int 0, .int 0, .ref (u 0 2), .ref (u 0 3), .ref (u 0 4)])), (u 0 2, .inl (cI, 9, .inl (fun _ => 0))), (u 0 3, .inl (cI, 9, .inl (fun _ => 0))), (u 0 4, .inl (cI, 9, .inl (fun _ => 0)))]) 4 33 := by
  refine MetN.mk (cc := cX2_init) (maxL := 1) (own := RX2) (by decide +kernel) rfl rfl rfl (Nat.le_of_ble_eq_true rfl) ?_
  intro p e s m args below meth c A Q C hin hret
  refine q_aload_n C 0 dX2_init_0 rfl ?_
  refine q_objInit C dX2_init_1 lkX2_init_1 lkX2_init_2 lkX2_init_3 (Nat.le_of_ble_eq_true rfl) (Nat.le_of_ble_eq_true rfl) ?_
  refine q_aload_n C 0 dX2_init_4 rfl ?_
  refine q_new C (ci := 3) (fs := [.int 0, .int 0, .int 0, .null, .null, .null]) (fun q5_1 => [(h0, .inr (2, [.int 0, .int 0, .null])), (q5_1, .inr (3, [.int 0, .int 0, .int 0, .null, .null, .null]))]) dX2_init_5 lkX2_init_4 lkX2_init_5 lkX2_init_6 inX2_init_X3 tyX3 tyX3_ok rfl (fun j hj => match j, hj with | 0, _ => rfl | 1, _ => rfl | 2, _ => rfl | 3, _ => rfl | 4, _ => rfl | 5, _ => rfl | j + 6, h => absurd h (by omega)) (Nat.le_of_ble_eq_true rfl) (Nat.le_of_ble_eq_true rfl) (fun _ => rfl) (fun q5_1 => ?_)
  refine q_dup C dX2_init_8 rfl ?_
  refine q_callI C (fun b9_2 => [(h0, .inr (2, [.int 0, .int 0, .null])), (b9_2 0 0, .inr (3, [.int 1, .int 0, .int 0, .ref (b9_2 0 1), .ref (b9_2 0 2), .ref (b9_2 0 3)])), (b9_2 0 1, .inl (cI, 9, .inl (fun _ => 0))), (b9_2 0 2, .inl (cI, 9, .inl (fun _ => 0))), (b9_2 0 3, .inl (cI, 9, .inl (fun _ => 0)))]) (kX3_init l D cI cJ cZ cN cM (q5_1)) (cwI 0 C.1.2.2.2.2 gX2_init_X3_init rfl rfl rfl (C.1.2.2.2.2 _ lkX2_init_6) (C.1.2.2.2.2 _ lkX2_init_8) (C.1.2.2.2.2 _ lkX2_init_9) rfl hdX3_init ⟨Nat.le_of_ble_eq_true rfl, Nat.le_of_ble_eq_true rfl⟩) (fun _ => FrX.ofB [1] [0] [0, 1, 2, 3, 4] rfl rfl rfl rfl rfl rfl rfl) (Nat.le_of_ble_eq_true rfl) dX2_init_9 ⟨Nat.le_of_ble_eq_true rfl, Nat.le_of_ble_eq_true rfl⟩ (fun b9_2 e9_2 => ?_)
  subst e9_2
  refine q_putF C 0 2 [(h0, .inr (2, [.int 0, .int 0, .ref (b9_2 0 0)])), (b9_2 0 0, .inr (3, [.int 1, .int 0, .int 0, .ref (b9_2 0 1), .ref (b9_2 0 2), .ref (b9_2 0 3)])), (b9_2 0 1, .inl (cI, 9, .inl (fun _ => 0))), (b9_2 0 2, .inl (cI, 9, .inl (fun _ => 0))), (b9_2 0 3, .inl (cI, 9, .inl (fun _ => 0)))] hin dX2_init_12 rfl rfl (Nat.le_of_ble_eq_true rfl) inX2_init_X2 tyX2 tyX2_ok nmX2 lkX2_init_7 rfl rfl rfl rfl rfl (Nat.le_of_ble_eq_true rfl) rfl ?_
  refine q_widen (cs1 := 4) (ss1 := 33) (Nat.le_of_ble_eq_true rfl) (Nat.le_of_ble_eq_true rfl) ?_
  exact hret (fun k i => (([[h0, b9_2 0 0, b9_2 0 1, b9_2 0 2, b9_2 0 3]] : List (List Nat)).getD k []).getD i 0) _ _ rfl dX2_init_15

