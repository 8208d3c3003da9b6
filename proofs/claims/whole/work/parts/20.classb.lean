abbrev rmX5_guessByBits : Room := { frames := 0, cells := 0, slots := 0, locals := 0 }
theorem hdX5_guessByBits : yX5_guessByBits.cls ≠ "java/lang/invoke/MethodHandle" ∧ yX5_guessByBits.cls ≠ "java/lang/invoke/VarHandle" ∧ (parseMethodDescriptor yX5_guessByBits.desc).map (fun d => d.parameters.length) = some 1 := by decide +kernel
def fX5_guessByBits_L10 (v0 : Int64) : Nat → Int32 → Option (Int32)
  | 0, _ => none
  | n + 1, v2 =>
  if (7 : Int32) < v2 then (
  some v2) else (
  if (lg_cmp ((v0 >>> (v2.toInt64 &&& 63)) &&& (1 : Int64)) (1 : Int64)) = 0 then (
  fX5_guessByBits_L10 v0 n (v2 + 1)) else (
  some v2))
def fX5_guessByBits  (v0 : Int64) : Option (Int32) :=
  if (lg_cmp v0 (0 : Int64)) = 0 then (
  some (0 : Int32)) else (
  (fX5_guessByBits_L10 v0 300 (0 : Int32)).bind fun v2_10 =>
  some ((((1 : Int32) <<< (v2_10 &&& 31)) * (1000 : Int32)) / (773 : Int32)))
set_option maxRecDepth 100000 in
set_option maxHeartbeats 4000000 in
theorem wX5_guessByBits_L10 {p : Program} {l : Launch} {e : Env} {s : State} {m : MethodId} {args : Array Value} {below : List Frame} {meth : Method} {c : Code} {Q : State → Prop} {D : va_G} {A : Nat → Prop} {cI cJ cZ cN cM : ClassId} (C : Cx p s m args c cX5_guessByBits 3 RX5 wsX5_guessByBits D (TYL cI cJ cZ cN cM) A)   (v0 : Int64) (o2 : Int32) (kk : WW p l e rmX5_guessByBits s m args below meth c Q D A 3 0 0 ([]) [(2, .int o2)] 32 []) : ∀ (n : Nat) (v2 : Int32), fX5_guessByBits_L10 v0 n v2 = some o2 → WW p l e rmX5_guessByBits s m args below meth c Q D A 3 0 0 ([]) [(0, .long v0), (2, .int v2)] 10 [] := by
  intro n
  induction n with
  | zero =>
    intro v2 hf
    rw [fX5_guessByBits_L10] at hf
    cases hf
  | succ n ih =>
    intro v2 hf
    rw [fX5_guessByBits_L10] at hf
    refine q_iload_n C 1 dX5_guessByBits_10 rfl ?_
    refine q_bipush C 7 dX5_guessByBits_11 (by decide) ?_
    refine q_icmp_gt C 32 dX5_guessByBits_13 (by decide) hf (fun hf => ?_) (fun hf => ?_)
    · refine q_lv [(2, .int v2)] [1] rfl ?_
      have hz1 := Option.some.inj hf
      clear hf
      subst hz1
      exact kk
    · refine q_lload_n C 0 dX5_guessByBits_16 rfl ?_
      refine q_iload_n C 1 dX5_guessByBits_17 rfl ?_
      refine q_lshr C dX5_guessByBits_18 ?_
      refine q_lconst C 1 dX5_guessByBits_19 (by decide) ?_
      refine q_land C dX5_guessByBits_20 ?_
      refine q_lconst C 1 dX5_guessByBits_21 (by decide) ?_
      refine q_lcmp C dX5_guessByBits_22 ?_
      refine q_if_ne C 32 dX5_guessByBits_23 (by decide) hf (fun hf => ?_) (fun hf => ?_)
      · refine q_lv [(2, .int v2)] [1] rfl ?_
        have hz1 := Option.some.inj hf
        clear hf
        subst hz1
        exact kk
      · refine q_iinc C (v2 + 1) 1 [(2, .int (v2 + 1)), (0, .long v0)] dX5_guessByBits_26 rfl rfl (by decide) rfl ?_
        refine q_goto C 10 dX5_guessByBits_29 (by decide) ?_
        refine q_lv [(0, .long v0), (2, .int (v2 + 1))] [1, 0] rfl ?_
        exact ih _ hf
set_option maxRecDepth 100000 in
set_option maxHeartbeats 4000000 in
theorem kX5_guessByBits (l : Launch) (D : va_G) (cI cJ cZ cN cM : ClassId)   (v0 : Int64) (r : Int32) (hf : fX5_guessByBits v0 = some r) : MetI l yX5_guessByBits wsX5_guessByBits rmX5_guessByBits D (TYL cI cJ cZ cN cM) [.long v0] ([]) ([]) r := by
  refine MetI.mk (cc := cX5_guessByBits) (maxL := 3) (own := RX5) (ty := .int) [(0, .long v0)] (by decide +kernel) rfl rfl (Nat.le_of_ble_eq_true rfl) rfl ?_
  intro p e s m args below meth c A Q C hret
  unfold fX5_guessByBits at hf
  refine q_lload_n C 0 dX5_guessByBits_0 rfl ?_
  refine q_lconst C 0 dX5_guessByBits_1 (by decide) ?_
  refine q_lcmp C dX5_guessByBits_2 ?_
  refine q_if_ne C 8 dX5_guessByBits_3 (by decide) hf (fun hf => ?_) (fun hf => ?_)
  · refine q_iconst C 0 dX5_guessByBits_8 (by decide) ?_
    refine q_istore_n C [(2, .int (0 : Int32)), (0, .long v0)] dX5_guessByBits_9 (by decide) rfl ?_
    obtain ⟨v2_10, hL, hf⟩ := bd_e hf
    refine q_lv [(0, .long v0), (2, .int (0 : Int32))] [1, 0] rfl ?_
    refine wX5_guessByBits_L10 C   v0 v2_10 ?_ 300 _ hL
    refine q_iconst C 1 dX5_guessByBits_32 (by decide) ?_
    refine q_iload_n C 0 dX5_guessByBits_33 rfl ?_
    refine q_ishl C dX5_guessByBits_34 ?_
    refine q_sipush C 1000 dX5_guessByBits_35 (by decide) ?_
    refine q_imul C dX5_guessByBits_38 ?_
    refine q_sipush C 773 dX5_guessByBits_39 (by decide) ?_
    refine q_idivC C dX5_guessByBits_42 (by decide) ?_
    have hz1 := Option.some.inj hf
    clear hf
    subst hz1
    exact hret _ _ dX5_guessByBits_43 rfl
  · refine q_iconst C 0 dX5_guessByBits_6 (by decide) ?_
    have hz1 := Option.some.inj hf
    clear hf
    subst hz1
    exact hret _ _ dX5_guessByBits_7 rfl

theorem lkX5_guessByLeast_1 : Cond.constantLong RX5 48 (1024) ∈ wsX5_guessByLeast := List.mem_of_getElem? (i := 1) rfl
theorem lkX5_guessByLeast_2 : Cond.constantLong RX5 50 (2048) ∈ wsX5_guessByLeast := List.mem_of_getElem? (i := 2) rfl
abbrev rmX5_guessByLeast : Room := { frames := 1, cells := 0, slots := 0, locals := 21 }
theorem hdX5_guessByLeast : yX5_guessByLeast.cls ≠ "java/lang/invoke/MethodHandle" ∧ yX5_guessByLeast.cls ≠ "java/lang/invoke/VarHandle" ∧ (parseMethodDescriptor yX5_guessByLeast.desc).map (fun d => d.parameters.length) = some 1 := by decide +kernel
def fX5_guessByLeast  (v0 : Int64) : Option (Int32) :=
  (fX5_first v0).bind fun x1 =>
  if (lg_cmp x1 (1024 : Int64)) = 0 then (
  some (0 : Int32)) else (
  (fX5_second v0).bind fun x14 =>
  if (lg_cmp x14 (1024 : Int64)) = 0 then (
  some (1 : Int32)) else (
  (fX5_third v0).bind fun x27 =>
  if (lg_cmp x27 (1024 : Int64)) = 0 then (
  some (2 : Int32)) else (
  if 0 ≤ (lg_cmp x27 (0 : Int64)) then (
  (dvL (2048 : Int64) (x27 + (1 : Int64))).bind fun x57 =>
  some x57.toInt32) else (
  some (0 : Int32)))))
set_option maxRecDepth 100000 in
set_option maxHeartbeats 4000000 in
theorem kX5_guessByLeast (l : Launch) (D : va_G) (cI cJ cZ cN cM : ClassId)   (v0 : Int64) (r : Int32) (hf : fX5_guessByLeast v0 = some r) : MetI l yX5_guessByLeast wsX5_guessByLeast rmX5_guessByLeast D (TYL cI cJ cZ cN cM) [.long v0] ([]) ([]) r := by
  refine MetI.mk (cc := cX5_guessByLeast) (maxL := 4) (own := RX5) (ty := .int) [(0, .long v0)] (by decide +kernel) rfl rfl (Nat.le_of_ble_eq_true rfl) rfl ?_
  intro p e s m args below meth c A Q C hret
  unfold fX5_guessByLeast at hf
  refine q_lload_n C 0 dX5_guessByLeast_0 rfl ?_
  obtain ⟨x1, hM, hf⟩ := bd_e hf
  refine q_callSL C ([]) (kX5_first l D cI cJ cZ cN cM   v0 x1 hM) (va_cwS 1 C.1.2.2.2.2 gX5_guessByLeast_X5_first rfl rfl rfl hdX5_first ⟨Nat.le_of_ble_eq_true rfl, Nat.le_of_ble_eq_true rfl⟩) FrX.none rfl rfl (Nat.le_of_ble_eq_true rfl) dX5_guessByLeast_1 ⟨Nat.zero_le _, Nat.zero_le _⟩ ?_
  refine q_ldc2 C dX5_guessByLeast_4 lkX5_guessByLeast_1 ?_
  refine q_lcmp C dX5_guessByLeast_7 ?_
  refine q_if_ne C 13 dX5_guessByLeast_8 (by decide) hf (fun hf => ?_) (fun hf => ?_)
  · refine q_lload_n C 0 dX5_guessByLeast_13 rfl ?_
    obtain ⟨x14, hM, hf⟩ := bd_e hf
    refine q_callSL C ([]) (kX5_second l D cI cJ cZ cN cM   v0 x14 hM) (va_cwS 1 C.1.2.2.2.2 gX5_guessByLeast_X5_second rfl rfl rfl hdX5_second ⟨Nat.le_of_ble_eq_true rfl, Nat.le_of_ble_eq_true rfl⟩) FrX.none rfl rfl (Nat.le_of_ble_eq_true rfl) dX5_guessByLeast_14 ⟨Nat.zero_le _, Nat.zero_le _⟩ ?_
    refine q_ldc2 C dX5_guessByLeast_17 lkX5_guessByLeast_1 ?_
    refine q_lcmp C dX5_guessByLeast_20 ?_
    refine q_if_ne C 26 dX5_guessByLeast_21 (by decide) hf (fun hf => ?_) (fun hf => ?_)
    · refine q_lload_n C 0 dX5_guessByLeast_26 rfl ?_
      obtain ⟨x27, hM, hf⟩ := bd_e hf
      refine q_callSL C ([]) (kX5_third l D cI cJ cZ cN cM   v0 x27 hM) (va_cwS 1 C.1.2.2.2.2 gX5_guessByLeast_X5_third rfl rfl rfl hdX5_third ⟨Nat.le_of_ble_eq_true rfl, Nat.le_of_ble_eq_true rfl⟩) FrX.none rfl rfl (Nat.le_of_ble_eq_true rfl) dX5_guessByLeast_27 ⟨Nat.zero_le _, Nat.zero_le _⟩ ?_
      refine q_lstore_n C [(2, .long x27), (0, .long v0)] dX5_guessByLeast_30 (by decide) rfl ?_
      refine q_lload_n C 0 dX5_guessByLeast_31 rfl ?_
      refine q_ldc2 C dX5_guessByLeast_32 lkX5_guessByLeast_1 ?_
      refine q_lcmp C dX5_guessByLeast_35 ?_
      refine q_if_ne C 41 dX5_guessByLeast_36 (by decide) hf (fun hf => ?_) (fun hf => ?_)
      · refine q_lload_n C 0 dX5_guessByLeast_41 rfl ?_
        refine q_lconst C 0 dX5_guessByLeast_42 (by decide) ?_
        refine q_lcmp C dX5_guessByLeast_43 ?_
        refine q_if_ge C 51 dX5_guessByLeast_44 (by decide) hf (fun hf => ?_) (fun hf => ?_)
        · refine q_ldc2 C dX5_guessByLeast_51 lkX5_guessByLeast_2 ?_
          refine q_lload_n C 0 dX5_guessByLeast_54 rfl ?_
          refine q_lconst C 1 dX5_guessByLeast_55 (by decide) ?_
          refine q_ladd C dX5_guessByLeast_56 ?_
          refine q_ldiv C dX5_guessByLeast_57 hf (fun x57 hf => ?_)
          refine q_l2i C dX5_guessByLeast_58 ?_
          have hz1 := Option.some.inj hf
          clear hf
          subst hz1
          exact hret _ _ dX5_guessByLeast_59 rfl
        · refine q_iconst C 0 dX5_guessByLeast_47 (by decide) ?_
          refine q_goto C 59 dX5_guessByLeast_48 (by decide) ?_
          have hz1 := Option.some.inj hf
          clear hf
          subst hz1
          exact hret _ _ dX5_guessByLeast_59 rfl
      · refine q_iconst C 2 dX5_guessByLeast_39 (by decide) ?_
        have hz1 := Option.some.inj hf
        clear hf
        subst hz1
        exact hret _ _ dX5_guessByLeast_40 rfl
    · refine q_iconst C 1 dX5_guessByLeast_24 (by decide) ?_
      have hz1 := Option.some.inj hf
      clear hf
      subst hz1
      exact hret _ _ dX5_guessByLeast_25 rfl
  · refine q_iconst C 0 dX5_guessByLeast_11 (by decide) ?_
    have hz1 := Option.some.inj hf
    clear hf
    subst hz1
    exact hret _ _ dX5_guessByLeast_12 rfl

theorem lkX3_become_1 : Cond.fieldLink RX3 9 "TwiceHeard$Net" "size" "I" ∈ wsX3_become := List.mem_of_getElem? (i := 1) rfl
theorem lkX3_become_2 : Cond.fieldLink RX3 25 "TwiceHeard$Net" "salt" "I" ∈ wsX3_become := List.mem_of_getElem? (i := 2) rfl
theorem lkX3_become_3 : Cond.fieldLink RX3 28 "TwiceHeard$Net" "mode" "I" ∈ wsX3_become := List.mem_of_getElem? (i := 3) rfl
theorem lkX3_become_4 : Cond.fieldLink RX3 15 "TwiceHeard$Net" "linked" "[I" ∈ wsX3_become := List.mem_of_getElem? (i := 4) rfl
theorem lkX3_become_5 : Cond.methodLink RX3 31 arraycopyName ∈ wsX3_become := List.mem_of_getElem? (i := 5) rfl
theorem lkX3_become_6 : Cond.native arraycopyName ∈ wsX3_become := List.mem_of_getElem? (i := 6) rfl
theorem lkX3_become_7 : Cond.static arraycopyName ∈ wsX3_become := List.mem_of_getElem? (i := 7) rfl
theorem lkX3_become_8 : Cond.initialized "java/lang/System" ∈ wsX3_become := List.mem_of_getElem? (i := 8) rfl
theorem lkX3_become_9 : Cond.fieldLink RX3 19 "TwiceHeard$Net" "lost" "[I" ∈ wsX3_become := List.mem_of_getElem? (i := 9) rfl
theorem lkX3_become_10 : Cond.fieldLink RX3 22 "TwiceHeard$Net" "heard" "[I" ∈ wsX3_become := List.mem_of_getElem? (i := 10) rfl
theorem inX3_become_X3 : ∀ w ∈ wsX30, w ∈ wsX3_become := fun w h => List.mem_cons_of_mem _ (List.mem_append_right _ h)
abbrev rmX3_become : Room := { frames := 1, cells := 0, slots := 0, locals := 40 }
theorem hdX3_become : yX3_become.cls = RX3 ∧ yX3_become.cls ≠ "java/lang/invoke/MethodHandle" ∧ yX3_become.cls ≠ "java/lang/invoke/VarHandle" ∧ (parseMethodDescriptor yX3_become.desc).map (fun d => d.parameters.length) = some 1 := by decide +kernel
def fX3_become (sz : Int32) (sa : Int32) (mo : Int32) (li : (Nat → Int32)) (lo : (Nat → Int32)) (he : (Nat → Int32)) (sz2 : Int32) (sa2 : Int32) (mo2 : Int32) (li2 : (Nat → Int32)) (lo2 : (Nat → Int32)) (he2 : (Nat → Int32))  : Option (Int32 × Int32 × Int32 × (Nat → Int32) × (Nat → Int32) × (Nat → Int32)) :=
  some (sz2, sa2, mo2, (va_cpy li2 li 0 0 9), (va_cpy lo2 lo 0 0 9), (va_cpy he2 he 0 0 9))
set_option maxRecDepth 100000 in
set_option maxHeartbeats 4000000 in
theorem kX3_become (l : Launch) (D : va_G) (cI cJ cZ cN cM : ClassId) (na : Nat → Nat) (oa : Nat → Nat) (sz : Int32) (sa : Int32) (mo : Int32) (li : (Nat → Int32)) (lo : (Nat → Int32)) (he : (Nat → Int32)) (sz2 : Int32) (sa2 : Int32) (mo2 : Int32) (li2 : (Nat → Int32)) (lo2 : (Nat → Int32)) (he2 : (Nat → Int32))  (sz_o : Int32) (sa_o : Int32) (mo_o : Int32) (li_o : (Nat → Int32)) (lo_o : (Nat → Int32)) (he_o : (Nat → Int32)) (hf : fX3_become sz sa mo li lo he sz2 sa2 mo2 li2 lo2 he2 = some (sz_o, sa_o, mo_o, li_o, lo_o, he_o)) : MetV l yX3_become wsX3_become rmX3_become D (TYL cI cJ cZ cN cM) [.ref (na 0), .ref (oa 0)] (List.flatten [nW cI cJ cZ cN cM na sz sa mo li lo he, nW cI cJ cZ cN cM oa sz2 sa2 mo2 li2 lo2 he2]) (List.flatten [nW cI cJ cZ cN cM na sz_o sa_o mo_o li_o lo_o he_o, nW cI cJ cZ cN cM oa sz2 sa2 mo2 li2 lo2 he2]) := by
  refine MetV.mk (cc := cX3_become) (maxL := 2) (own := RX3) [(0, .ref (na 0)), (1, .ref (oa 0))] (by decide +kernel) rfl rfl (Nat.le_of_ble_eq_true rfl) rfl ?_
  intro p e s m args below meth c A Q C hret
  unfold fX3_become at hf
  refine q_aload_n C 0 dX3_become_0 rfl ?_
  refine q_aload_n C 1 dX3_become_1 rfl ?_
  refine q_get C 4 0 dX3_become_2 rfl rfl (Nat.le_of_ble_eq_true rfl) inX3_become_X3 lkX3_become_1 rfl rfl ?_
  refine q_put C 0 0 (List.flatten [nW cI cJ cZ cN cM na sz2 sa mo li lo he, nW cI cJ cZ cN cM oa sz2 sa2 mo2 li2 lo2 he2]) dX3_become_5 rfl rfl (Nat.le_of_ble_eq_true rfl) inX3_become_X3 tyX3 tyX3_ok nmX3 lkX3_become_1 rfl rfl rfl rfl (Nat.le_of_ble_eq_true rfl) rfl ?_
  refine q_aload_n C 0 dX3_become_8 rfl ?_
  refine q_aload_n C 1 dX3_become_9 rfl ?_
  refine q_get C 4 1 dX3_become_10 rfl rfl (Nat.le_of_ble_eq_true rfl) inX3_become_X3 lkX3_become_2 rfl rfl ?_
  refine q_put C 0 1 (List.flatten [nW cI cJ cZ cN cM na sz2 sa2 mo li lo he, nW cI cJ cZ cN cM oa sz2 sa2 mo2 li2 lo2 he2]) dX3_become_13 rfl rfl (Nat.le_of_ble_eq_true rfl) inX3_become_X3 tyX3 tyX3_ok nmX3 lkX3_become_2 rfl rfl rfl rfl (Nat.le_of_ble_eq_true rfl) rfl ?_
  refine q_aload_n C 0 dX3_become_16 rfl ?_
  refine q_aload_n C 1 dX3_become_17 rfl ?_
  refine q_get C 4 2 dX3_become_18 rfl rfl (Nat.le_of_ble_eq_true rfl) inX3_become_X3 lkX3_become_3 rfl rfl ?_
  refine q_put C 0 2 (List.flatten [nW cI cJ cZ cN cM na sz2 sa2 mo2 li lo he, nW cI cJ cZ cN cM oa sz2 sa2 mo2 li2 lo2 he2]) dX3_become_21 rfl rfl (Nat.le_of_ble_eq_true rfl) inX3_become_X3 tyX3 tyX3_ok nmX3 lkX3_become_3 rfl rfl rfl rfl (Nat.le_of_ble_eq_true rfl) rfl ?_
  refine q_aload_n C 1 dX3_become_24 rfl ?_
  refine q_get C 4 3 dX3_become_25 rfl rfl (Nat.le_of_ble_eq_true rfl) inX3_become_X3 lkX3_become_4 rfl rfl ?_
  refine q_iconst C 0 dX3_become_28 (by decide) ?_
  refine q_aload_n C 0 dX3_become_29 rfl ?_
  refine q_get C 0 3 dX3_become_30 rfl rfl (Nat.le_of_ble_eq_true rfl) inX3_become_X3 lkX3_become_4 rfl rfl ?_
  refine q_iconst C 0 dX3_become_33 (by decide) ?_
  refine q_bipush C 9 dX3_become_34 (by decide) ?_
  refine q_copy C 5 1 0 (List.flatten [nW cI cJ cZ cN cM na sz2 sa2 mo2 (va_cpy li2 li 0 0 9) lo he, nW cI cJ cZ cN cM oa sz2 sa2 mo2 li2 lo2 he2]) dX3_become_36 lkX3_become_5 lkX3_become_6 lkX3_become_7 lkX3_become_8 rfl rfl rfl (by decide) (by decide) (by decide) (by decide) (by decide) (Nat.le_of_ble_eq_true rfl) (Nat.le_of_ble_eq_true rfl) rfl ?_
  refine q_aload_n C 1 dX3_become_39 rfl ?_
  refine q_get C 4 4 dX3_become_40 rfl rfl (Nat.le_of_ble_eq_true rfl) inX3_become_X3 lkX3_become_9 rfl rfl ?_
  refine q_iconst C 0 dX3_become_43 (by decide) ?_
  refine q_aload_n C 0 dX3_become_44 rfl ?_
  refine q_get C 0 4 dX3_become_45 rfl rfl (Nat.le_of_ble_eq_true rfl) inX3_become_X3 lkX3_become_9 rfl rfl ?_
  refine q_iconst C 0 dX3_become_48 (by decide) ?_
  refine q_bipush C 9 dX3_become_49 (by decide) ?_
  refine q_copy C 6 2 0 (List.flatten [nW cI cJ cZ cN cM na sz2 sa2 mo2 (va_cpy li2 li 0 0 9) (va_cpy lo2 lo 0 0 9) he, nW cI cJ cZ cN cM oa sz2 sa2 mo2 li2 lo2 he2]) dX3_become_51 lkX3_become_5 lkX3_become_6 lkX3_become_7 lkX3_become_8 rfl rfl rfl (by decide) (by decide) (by decide) (by decide) (by decide) (Nat.le_of_ble_eq_true rfl) (Nat.le_of_ble_eq_true rfl) rfl ?_
  refine q_aload_n C 1 dX3_become_54 rfl ?_
  refine q_get C 4 5 dX3_become_55 rfl rfl (Nat.le_of_ble_eq_true rfl) inX3_become_X3 lkX3_become_10 rfl rfl ?_
  refine q_iconst C 0 dX3_become_58 (by decide) ?_
  refine q_aload_n C 0 dX3_become_59 rfl ?_
  refine q_get C 0 5 dX3_become_60 rfl rfl (Nat.le_of_ble_eq_true rfl) inX3_become_X3 lkX3_become_10 rfl rfl ?_
  refine q_iconst C 0 dX3_become_63 (by decide) ?_
  refine q_bipush C 9 dX3_become_64 (by decide) ?_
  refine q_copy C 7 3 0 (List.flatten [nW cI cJ cZ cN cM na sz2 sa2 mo2 (va_cpy li2 li 0 0 9) (va_cpy lo2 lo 0 0 9) (va_cpy he2 he 0 0 9), nW cI cJ cZ cN cM oa sz2 sa2 mo2 li2 lo2 he2]) dX3_become_66 lkX3_become_5 lkX3_become_6 lkX3_become_7 lkX3_become_8 rfl rfl rfl (by decide) (by decide) (by decide) (by decide) (by decide) (Nat.le_of_ble_eq_true rfl) (Nat.le_of_ble_eq_true rfl) rfl ?_
  have hy0 := Option.some.inj hf
  clear hf
  obtain ⟨hz1, hy1⟩ := Prod.mk.inj hy0
  clear hy0
  obtain ⟨hz2, hy2⟩ := Prod.mk.inj hy1
  clear hy1
  obtain ⟨hz3, hy3⟩ := Prod.mk.inj hy2
  clear hy2
  obtain ⟨hz4, hy4⟩ := Prod.mk.inj hy3
  clear hy3
  obtain ⟨hz5, hy5⟩ := Prod.mk.inj hy4
  clear hy4
  subst hz1
  subst hz2
  subst hz3
  subst hz4
  subst hz5
  subst hy5
  exact hret _ _ dX3_become_69

theorem lkX3_has_1 : Cond.fieldLink RX3 9 "TwiceHeard$Net" "size" "I" ∈ wsX3_has := List.mem_of_getElem? (i := 1) rfl
theorem inX3_has_X3 : ∀ w ∈ wsX30, w ∈ wsX3_has := fun w h => List.mem_cons_of_mem _ (List.mem_append_right _ h)
abbrev rmX3_has : Room := { frames := 0, cells := 0, slots := 0, locals := 0 }
theorem hdX3_has : yX3_has.cls = RX3 ∧ yX3_has.cls ≠ "java/lang/invoke/MethodHandle" ∧ yX3_has.cls ≠ "java/lang/invoke/VarHandle" ∧ (parseMethodDescriptor yX3_has.desc).map (fun d => d.parameters.length) = some 1 := by decide +kernel
def fX3_has (sz : Int32) (v1 : Int32) : Option (Int32) :=
  jn0 (
  some (0 : Int32)) fun k16 =>
  if v1 < 0 then (
  k16) else (
  if sz ≤ v1 then (
  k16) else (
  some (1 : Int32)))
set_option maxRecDepth 100000 in
set_option maxHeartbeats 4000000 in
theorem kX3_has (l : Launch) (D : va_G) (cI cJ cZ cN cM : ClassId) (na : Nat → Nat) (sz : Int32) (sa : Int32) (mo : Int32) (li : (Nat → Int32)) (lo : (Nat → Int32)) (he : (Nat → Int32)) (v1 : Int32) (r : Int32) (hf : fX3_has sz v1 = some r) : MetI l yX3_has wsX3_has rmX3_has D (TYL cI cJ cZ cN cM) [.ref (na 0), .int v1] (nW cI cJ cZ cN cM na sz sa mo li lo he) (nW cI cJ cZ cN cM na sz sa mo li lo he) r := by
  refine MetI.mk (cc := cX3_has) (maxL := 2) (own := RX3) (ty := .boolean) [(0, .ref (na 0)), (1, .int v1)] (by decide +kernel) rfl rfl (Nat.le_of_ble_eq_true rfl) rfl ?_
  intro p e s m args below meth c A Q C hret
  unfold fX3_has at hf
  refine q_iload_n C 1 dX3_has_0 rfl ?_
  refine jn0_e (WW p l e rmX3_has s m args below meth c Q D A 2 0 0 (nW cI cJ cZ cN cM na sz sa mo li lo he) [] 16 []) hf ?_ ?_
  · intro hf
    refine q_iconst C 0 dX3_has_16 (by decide) ?_
    have hz1 := Option.some.inj hf
    clear hf
    subst hz1
    exact hret _ _ dX3_has_17 (by decide)
  intro k16 J16 hf
  refine q_if_lt C 16 dX3_has_1 (by decide) hf (fun hf => ?_) (fun hf => ?_)
  · refine q_lv [] [] rfl ?_
    exact J16  hf
  · refine q_iload_n C 1 dX3_has_4 rfl ?_
    refine q_aload_n C 0 dX3_has_5 rfl ?_
    refine q_get C 0 0 dX3_has_6 rfl rfl (Nat.le_of_ble_eq_true rfl) inX3_has_X3 lkX3_has_1 rfl rfl ?_
    refine q_icmp_ge C 16 dX3_has_9 (by decide) hf (fun hf => ?_) (fun hf => ?_)
    · refine q_lv [] [] rfl ?_
      exact J16  hf
    · refine q_iconst C 1 dX3_has_12 (by decide) ?_
      refine q_goto C 17 dX3_has_13 (by decide) ?_
      have hz1 := Option.some.inj hf
      clear hf
      subst hz1
      exact hret _ _ dX3_has_17 (by decide)

theorem lkX3_hasLink_1 : Cond.fieldLink RX3 15 "TwiceHeard$Net" "linked" "[I" ∈ wsX3_hasLink := List.mem_of_getElem? (i := 1) rfl
theorem lkX3_hasLink_8 : Cond.static yX7_isIn ∈ wsX3_hasLink := List.mem_of_getElem? (i := 8) rfl
theorem lkX3_hasLink_9 : Cond.initialized RX7 ∈ wsX3_hasLink := List.mem_of_getElem? (i := 9) rfl
theorem inX3_hasLink_X3 : ∀ w ∈ wsX30, w ∈ wsX3_hasLink := fun w h => List.mem_cons_of_mem _ (List.mem_append_right _ h)
abbrev rmX3_hasLink : Room := { frames := 1, cells := 0, slots := 0, locals := 21 }
theorem hdX3_hasLink : yX3_hasLink.cls = RX3 ∧ yX3_hasLink.cls ≠ "java/lang/invoke/MethodHandle" ∧ yX3_hasLink.cls ≠ "java/lang/invoke/VarHandle" ∧ (parseMethodDescriptor yX3_hasLink.desc).map (fun d => d.parameters.length) = some 2 := by decide +kernel
def fX3_hasLink (sz : Int32) (li : (Nat → Int32)) (v1 : Int32) (v2 : Int32) : Option (Int32) :=
  (fX3_has sz v1).bind fun x2 =>
  jn0 (
  some (0 : Int32)) fun k33 =>
  if x2 = 0 then (
  k33) else (
  (fX3_has sz v2).bind fun x10 =>
  if x10 = 0 then (
  k33) else (
  (rdI 9 li v1).bind fun x21 =>
  (fX7_isIn x21 v2).bind fun x23 =>
  if x23 = 0 then (
  k33) else (
  some (1 : Int32))))
set_option maxRecDepth 100000 in
set_option maxHeartbeats 4000000 in
theorem kX3_hasLink (l : Launch) (D : va_G) (cI cJ cZ cN cM : ClassId) (na : Nat → Nat) (sz : Int32) (sa : Int32) (mo : Int32) (li : (Nat → Int32)) (lo : (Nat → Int32)) (he : (Nat → Int32)) (v1 : Int32) (v2 : Int32) (r : Int32) (hf : fX3_hasLink sz li v1 v2 = some r) : MetI l yX3_hasLink wsX3_hasLink rmX3_hasLink D (TYL cI cJ cZ cN cM) [.ref (na 0), .int v1, .int v2] (nW cI cJ cZ cN cM na sz sa mo li lo he) (nW cI cJ cZ cN cM na sz sa mo li lo he) r := by
  refine MetI.mk (cc := cX3_hasLink) (maxL := 3) (own := RX3) (ty := .boolean) [(0, .ref (na 0)), (1, .int v1), (2, .int v2)] (by decide +kernel) rfl rfl (Nat.le_of_ble_eq_true rfl) rfl ?_
  intro p e s m args below meth c A Q C hret
  unfold fX3_hasLink at hf
  refine q_aload_n C 0 dX3_hasLink_0 rfl ?_
  refine q_iload_n C 1 dX3_hasLink_1 rfl ?_
  obtain ⟨x2, hM, hf⟩ := bd_e hf
  refine q_callVI C (nW cI cJ cZ cN cM na sz sa mo li lo he) (kX3_has l D cI cJ cZ cN cM na sz sa mo li lo he v1 x2 hM) (cwV 1 C.1.2.2.2.2 gX3_hasLink_X3_has rfl rfl rfl hdX3_has ⟨Nat.le_of_ble_eq_true rfl, Nat.le_of_ble_eq_true rfl⟩) 0 3 rfl rfl FrX.all rfl rfl (Nat.le_of_ble_eq_true rfl) dX3_hasLink_2 ⟨Nat.zero_le _, Nat.zero_le _⟩ ?_
  refine jn0_e (WW p l e rmX3_hasLink s m args below meth c Q D A 3 0 0 (nW cI cJ cZ cN cM na sz sa mo li lo he) [] 33 []) hf ?_ ?_
  · intro hf
    refine q_iconst C 0 dX3_hasLink_33 (by decide) ?_
    have hz1 := Option.some.inj hf
    clear hf
    subst hz1
    exact hret _ _ dX3_hasLink_34 (by decide)
  intro k33 J33 hf
  refine q_if_eq C 33 dX3_hasLink_5 (by decide) hf (fun hf => ?_) (fun hf => ?_)
  · refine q_lv [] [] rfl ?_
    exact J33  hf
  · refine q_aload_n C 0 dX3_hasLink_8 rfl ?_
    refine q_iload_n C 2 dX3_hasLink_9 rfl ?_
    obtain ⟨x10, hM, hf⟩ := bd_e hf
    refine q_callVI C (nW cI cJ cZ cN cM na sz sa mo li lo he) (kX3_has l D cI cJ cZ cN cM na sz sa mo li lo he v2 x10 hM) (cwV 1 C.1.2.2.2.2 gX3_hasLink_X3_has rfl rfl rfl hdX3_has ⟨Nat.le_of_ble_eq_true rfl, Nat.le_of_ble_eq_true rfl⟩) 0 3 rfl rfl FrX.all rfl rfl (Nat.le_of_ble_eq_true rfl) dX3_hasLink_10 ⟨Nat.zero_le _, Nat.zero_le _⟩ ?_
    refine q_if_eq C 33 dX3_hasLink_13 (by decide) hf (fun hf => ?_) (fun hf => ?_)
    · refine q_lv [] [] rfl ?_
      exact J33  hf
    · refine q_aload_n C 0 dX3_hasLink_16 rfl ?_
      refine q_get C 0 3 dX3_hasLink_17 rfl rfl (Nat.le_of_ble_eq_true rfl) inX3_hasLink_X3 lkX3_hasLink_1 rfl rfl ?_
      refine q_iload_n C 1 dX3_hasLink_20 rfl ?_
      refine q_iald C 1 0 dX3_hasLink_21 rfl rfl hf (fun x21 hf => ?_)
      refine q_iload_n C 2 dX3_hasLink_22 rfl ?_
      obtain ⟨x23, hM, hf⟩ := bd_e hf
      refine q_callSNI C (nW cI cJ cZ cN cM na sz sa mo li lo he) (kX7_isIn l D cI cJ cZ cN cM   x21 v2 x23 hM) ⟨va_cnB 2 C.1.2.2.2.2 gX3_hasLink_X7_isIn_n41 rfl rfl rfl C.2.2.2.1 (C.1.2.2.2.2 _ lkX3_hasLink_9) hdX7_isIn ⟨Nat.le_of_ble_eq_true rfl, Nat.le_of_ble_eq_true rfl⟩, C.1.2.2.2.2 _ lkX3_hasLink_8, trivial⟩ FrX.none rfl rfl (Nat.le_of_ble_eq_true rfl) dX3_hasLink_23 ⟨Nat.zero_le _, Nat.zero_le _⟩ ?_
      refine q_if_eq C 33 dX3_hasLink_26 (by decide) hf (fun hf => ?_) (fun hf => ?_)
      · refine q_lv [] [] rfl ?_
        exact J33  hf
      · refine q_iconst C 1 dX3_hasLink_29 (by decide) ?_
        refine q_goto C 34 dX3_hasLink_30 (by decide) ?_
        have hz1 := Option.some.inj hf
        clear hf
        subst hz1
        exact hret _ _ dX3_hasLink_34 (by decide)

theorem lkX3_hasLost_1 : Cond.fieldLink RX3 19 "TwiceHeard$Net" "lost" "[I" ∈ wsX3_hasLost := List.mem_of_getElem? (i := 1) rfl
theorem lkX3_hasLost_8 : Cond.static yX7_isIn ∈ wsX3_hasLost := List.mem_of_getElem? (i := 8) rfl
theorem lkX3_hasLost_9 : Cond.initialized RX7 ∈ wsX3_hasLost := List.mem_of_getElem? (i := 9) rfl
theorem inX3_hasLost_X3 : ∀ w ∈ wsX30, w ∈ wsX3_hasLost := fun w h => List.mem_cons_of_mem _ (List.mem_append_right _ h)
abbrev rmX3_hasLost : Room := { frames := 1, cells := 0, slots := 0, locals := 21 }
theorem hdX3_hasLost : yX3_hasLost.cls = RX3 ∧ yX3_hasLost.cls ≠ "java/lang/invoke/MethodHandle" ∧ yX3_hasLost.cls ≠ "java/lang/invoke/VarHandle" ∧ (parseMethodDescriptor yX3_hasLost.desc).map (fun d => d.parameters.length) = some 2 := by decide +kernel
def fX3_hasLost (sz : Int32) (lo : (Nat → Int32)) (v1 : Int32) (v2 : Int32) : Option (Int32) :=
  (fX3_has sz v1).bind fun x2 =>
  jn0 (
  some (0 : Int32)) fun k33 =>
  if x2 = 0 then (
  k33) else (
  (fX3_has sz v2).bind fun x10 =>
  if x10 = 0 then (
  k33) else (
  (rdI 9 lo v1).bind fun x21 =>
  (fX7_isIn x21 v2).bind fun x23 =>
  if x23 = 0 then (
  k33) else (
  some (1 : Int32))))
set_option maxRecDepth 100000 in
set_option maxHeartbeats 4000000 in
theorem kX3_hasLost (l : Launch) (D : va_G) (cI cJ cZ cN cM : ClassId) (na : Nat → Nat) (sz : Int32) (sa : Int32) (mo : Int32) (li : (Nat → Int32)) (lo : (Nat → Int32)) (he : (Nat → Int32)) (v1 : Int32) (v2 : Int32) (r : Int32) (hf : fX3_hasLost sz lo v1 v2 = some r) : MetI l yX3_hasLost wsX3_hasLost rmX3_hasLost D (TYL cI cJ cZ cN cM) [.ref (na 0), .int v1, .int v2] (nW cI cJ cZ cN cM na sz sa mo li lo he) (nW cI cJ cZ cN cM na sz sa mo li lo he) r := by
  refine MetI.mk (cc := cX3_hasLost) (maxL := 3) (own := RX3) (ty := .boolean) [(0, .ref (na 0)), (1, .int v1), (2, .int v2)] (by decide +kernel) rfl rfl (Nat.le_of_ble_eq_true rfl) rfl ?_
  intro p e s m args below meth c A Q C hret
  unfold fX3_hasLost at hf
  refine q_aload_n C 0 dX3_hasLost_0 rfl ?_
  refine q_iload_n C 1 dX3_hasLost_1 rfl ?_
  obtain ⟨x2, hM, hf⟩ := bd_e hf
  refine q_callVI C (nW cI cJ cZ cN cM na sz sa mo li lo he) (kX3_has l D cI cJ cZ cN cM na sz sa mo li lo he v1 x2 hM) (cwV 1 C.1.2.2.2.2 gX3_hasLost_X3_has rfl rfl rfl hdX3_has ⟨Nat.le_of_ble_eq_true rfl, Nat.le_of_ble_eq_true rfl⟩) 0 3 rfl rfl FrX.all rfl rfl (Nat.le_of_ble_eq_true rfl) dX3_hasLost_2 ⟨Nat.zero_le _, Nat.zero_le _⟩ ?_
  refine jn0_e (WW p l e rmX3_hasLost s m args below meth c Q D A 3 0 0 (nW cI cJ cZ cN cM na sz sa mo li lo he) [] 33 []) hf ?_ ?_
  · intro hf
    refine q_iconst C 0 dX3_hasLost_33 (by decide) ?_
    have hz1 := Option.some.inj hf
    clear hf
    subst hz1
    exact hret _ _ dX3_hasLost_34 (by decide)
  intro k33 J33 hf
  refine q_if_eq C 33 dX3_hasLost_5 (by decide) hf (fun hf => ?_) (fun hf => ?_)
  · refine q_lv [] [] rfl ?_
    exact J33  hf
  · refine q_aload_n C 0 dX3_hasLost_8 rfl ?_
    refine q_iload_n C 2 dX3_hasLost_9 rfl ?_
    obtain ⟨x10, hM, hf⟩ := bd_e hf
    refine q_callVI C (nW cI cJ cZ cN cM na sz sa mo li lo he) (kX3_has l D cI cJ cZ cN cM na sz sa mo li lo he v2 x10 hM) (cwV 1 C.1.2.2.2.2 gX3_hasLost_X3_has rfl rfl rfl hdX3_has ⟨Nat.le_of_ble_eq_true rfl, Nat.le_of_ble_eq_true rfl⟩) 0 3 rfl rfl FrX.all rfl rfl (Nat.le_of_ble_eq_true rfl) dX3_hasLost_10 ⟨Nat.zero_le _, Nat.zero_le _⟩ ?_
    refine q_if_eq C 33 dX3_hasLost_13 (by decide) hf (fun hf => ?_) (fun hf => ?_)
    · refine q_lv [] [] rfl ?_
      exact J33  hf
    · refine q_aload_n C 0 dX3_hasLost_16 rfl ?_
      refine q_get C 0 4 dX3_hasLost_17 rfl rfl (Nat.le_of_ble_eq_true rfl) inX3_hasLost_X3 lkX3_hasLost_1 rfl rfl ?_
      refine q_iload_n C 1 dX3_hasLost_20 rfl ?_
      refine q_iald C 2 0 dX3_hasLost_21 rfl rfl hf (fun x21 hf => ?_)
      refine q_iload_n C 2 dX3_hasLost_22 rfl ?_
      obtain ⟨x23, hM, hf⟩ := bd_e hf
      refine q_callSNI C (nW cI cJ cZ cN cM na sz sa mo li lo he) (kX7_isIn l D cI cJ cZ cN cM   x21 v2 x23 hM) ⟨va_cnB 2 C.1.2.2.2.2 gX3_hasLost_X7_isIn_n41 rfl rfl rfl C.2.2.2.1 (C.1.2.2.2.2 _ lkX3_hasLost_9) hdX7_isIn ⟨Nat.le_of_ble_eq_true rfl, Nat.le_of_ble_eq_true rfl⟩, C.1.2.2.2.2 _ lkX3_hasLost_8, trivial⟩ FrX.none rfl rfl (Nat.le_of_ble_eq_true rfl) dX3_hasLost_23 ⟨Nat.zero_le _, Nat.zero_le _⟩ ?_
      refine q_if_eq C 33 dX3_hasLost_26 (by decide) hf (fun hf => ?_) (fun hf => ?_)
      · refine q_lv [] [] rfl ?_
        exact J33  hf
      · refine q_iconst C 1 dX3_hasLost_29 (by decide) ?_
        refine q_goto C 34 dX3_hasLost_30 (by decide) ?_
        have hz1 := Option.some.inj hf
        clear hf
        subst hz1
        exact hret _ _ dX3_hasLost_34 (by decide)

theorem lkX3_everyone_1 : Cond.fieldLink RX3 9 "TwiceHeard$Net" "size" "I" ∈ wsX3_everyone := List.mem_of_getElem? (i := 1) rfl
theorem inX3_everyone_X3 : ∀ w ∈ wsX30, w ∈ wsX3_everyone := fun w h => List.mem_cons_of_mem _ (List.mem_append_right _ h)
abbrev rmX3_everyone : Room := { frames := 0, cells := 0, slots := 0, locals := 0 }
theorem hdX3_everyone : yX3_everyone.cls = RX3 ∧ yX3_everyone.cls ≠ "java/lang/invoke/MethodHandle" ∧ yX3_everyone.cls ≠ "java/lang/invoke/VarHandle" ∧ (parseMethodDescriptor yX3_everyone.desc).map (fun d => d.parameters.length) = some 0 := by decide +kernel
def fX3_everyone (sz : Int32)  : Option (Int32) :=
  some (((1 : Int32) <<< (sz &&& 31)) - (1 : Int32))
set_option maxRecDepth 100000 in
set_option maxHeartbeats 4000000 in
theorem kX3_everyone (l : Launch) (D : va_G) (cI cJ cZ cN cM : ClassId) (na : Nat → Nat) (sz : Int32) (sa : Int32) (mo : Int32) (li : (Nat → Int32)) (lo : (Nat → Int32)) (he : (Nat → Int32))  (r : Int32) (hf : fX3_everyone sz = some r) : MetI l yX3_everyone wsX3_everyone rmX3_everyone D (TYL cI cJ cZ cN cM) [.ref (na 0)] (nW cI cJ cZ cN cM na sz sa mo li lo he) (nW cI cJ cZ cN cM na sz sa mo li lo he) r := by
  refine MetI.mk (cc := cX3_everyone) (maxL := 1) (own := RX3) (ty := .int) [(0, .ref (na 0))] (by decide +kernel) rfl rfl (Nat.le_of_ble_eq_true rfl) rfl ?_
  intro p e s m args below meth c A Q C hret
  unfold fX3_everyone at hf
  refine q_iconst C 1 dX3_everyone_0 (by decide) ?_
  refine q_aload_n C 0 dX3_everyone_1 rfl ?_
  refine q_get C 0 0 dX3_everyone_2 rfl rfl (Nat.le_of_ble_eq_true rfl) inX3_everyone_X3 lkX3_everyone_1 rfl rfl ?_
  refine q_ishl C dX3_everyone_5 ?_
  refine q_iconst C 1 dX3_everyone_6 (by decide) ?_
  refine q_isub C dX3_everyone_7 ?_
  have hz1 := Option.some.inj hf
  clear hf
  subst hz1
  exact hret _ _ dX3_everyone_8 rfl

theorem lkX3_add_1 : Cond.fieldLink RX3 9 "TwiceHeard$Net" "size" "I" ∈ wsX3_add := List.mem_of_getElem? (i := 1) rfl
theorem lkX3_add_2 : Cond.fieldLink RX3 15 "TwiceHeard$Net" "linked" "[I" ∈ wsX3_add := List.mem_of_getElem? (i := 2) rfl
theorem lkX3_add_3 : Cond.fieldLink RX3 19 "TwiceHeard$Net" "lost" "[I" ∈ wsX3_add := List.mem_of_getElem? (i := 3) rfl
theorem lkX3_add_4 : Cond.fieldLink RX3 22 "TwiceHeard$Net" "heard" "[I" ∈ wsX3_add := List.mem_of_getElem? (i := 4) rfl
theorem lkX3_add_5 : Cond.static yX7_isIn ∈ wsX3_add := List.mem_of_getElem? (i := 5) rfl
theorem lkX3_add_6 : Cond.initialized RX7 ∈ wsX3_add := List.mem_of_getElem? (i := 6) rfl
theorem inX3_add_X3 : ∀ w ∈ wsX30, w ∈ wsX3_add := fun w h => List.mem_cons_of_mem _ (List.mem_append_right _ h)
abbrev rmX3_add : Room := { frames := 1, cells := 0, slots := 0, locals := 21 }
theorem hdX3_add : yX3_add.cls = RX3 ∧ yX3_add.cls ≠ "java/lang/invoke/MethodHandle" ∧ yX3_add.cls ≠ "java/lang/invoke/VarHandle" ∧ (parseMethodDescriptor yX3_add.desc).map (fun d => d.parameters.length) = some 2 := by decide +kernel
def fX3_add_L36 (v1 : Int32) (v3 : Int32) : Nat → Int32 → (Nat → Int32) → Option ((Nat → Int32))
  | 0, _, _ => none
  | n + 1, v4, li =>
  if v3 ≤ v4 then (
  some li) else (
  (fX7_isIn v1 v4).bind fun x45 =>
  jn1 (fun (li_64 : (Nat → Int32)) => 
  fX3_add_L36 v1 v3 n (v4 + 1) li_64) fun k64 =>
  if x45 = 0 then (
  k64 li) else (
  (rdI 9 li v4).bind fun x58 =>
  (wrI 9 li v4 (x58 ||| ((1 : Int32) <<< (v3 &&& 31)))).bind fun li_63 =>
  k64 li_63))
def fX3_add (sz : Int32) (li : (Nat → Int32)) (lo : (Nat → Int32)) (he : (Nat → Int32)) (v1 : Int32) (v2 : Int32) : Option (Int32 × (Nat → Int32) × (Nat → Int32) × (Nat → Int32)) :=
  if sz < (9 : Int32) then (
  (wrI 9 li sz v1).bind fun li_18 =>
  (wrI 9 lo sz (0 : Int32)).bind fun lo_25 =>
  (wrI 9 he sz v2).bind fun he_32 =>
  (fX3_add_L36 v1 sz 300 (0 : Int32) li_18).bind fun li_36 =>
  some ((sz + (1 : Int32)), li_36, lo_25, he_32)) else (
  some (sz, li, lo, he))
set_option maxRecDepth 100000 in
set_option maxHeartbeats 4000000 in
theorem wX3_add_L36 {p : Program} {l : Launch} {e : Env} {s : State} {m : MethodId} {args : Array Value} {below : List Frame} {meth : Method} {c : Code} {Q : State → Prop} {D : va_G} {A : Nat → Prop} {cI cJ cZ cN cM : ClassId} (C : Cx p s m args c cX3_add 5 RX3 wsX3_add D (TYL cI cJ cZ cN cM) A) (na : Nat → Nat) (sz : Int32) (sa : Int32) (mo : Int32) (lo : (Nat → Int32)) (he : (Nat → Int32)) (v1 : Int32) (v3 : Int32) (li_o : (Nat → Int32)) (kk : WW p l e rmX3_add s m args below meth c Q D A 5 0 0 (nW cI cJ cZ cN cM na sz sa mo li_o lo he) [(0, .ref (na 0))] 70 []) : ∀ (n : Nat) (v4 : Int32) (li : (Nat → Int32)), fX3_add_L36 v1 v3 n v4 li = some li_o → WW p l e rmX3_add s m args below meth c Q D A 5 0 0 (nW cI cJ cZ cN cM na sz sa mo li lo he) [(0, .ref (na 0)), (1, .int v1), (3, .int v3), (4, .int v4)] 36 [] := by
  intro n
  induction n with
  | zero =>
    intro v4 li hf
    rw [fX3_add_L36] at hf
    cases hf
  | succ n ih =>
    intro v4 li hf
    rw [fX3_add_L36] at hf
    refine q_iload C 3 dX3_add_36 rfl ?_
    refine q_iload_n C 2 dX3_add_38 rfl ?_
    refine q_icmp_ge C 70 dX3_add_39 (by decide) hf (fun hf => ?_) (fun hf => ?_)
    · refine q_lv [(0, .ref (na 0))] [0] rfl ?_
      have hz1 := Option.some.inj hf
      clear hf
      subst hz1
      exact kk
    · refine q_iload_n C 1 dX3_add_42 rfl ?_
      refine q_iload C 3 dX3_add_43 rfl ?_
      obtain ⟨x45, hM, hf⟩ := bd_e hf
      refine q_callSNI C (nW cI cJ cZ cN cM na sz sa mo li lo he) (kX7_isIn l D cI cJ cZ cN cM   v1 v4 x45 hM) ⟨va_cnB 2 C.1.2.2.2.2 gX3_add_X7_isIn_n41 rfl rfl rfl C.2.2.2.1 (C.1.2.2.2.2 _ lkX3_add_6) hdX7_isIn ⟨Nat.le_of_ble_eq_true rfl, Nat.le_of_ble_eq_true rfl⟩, C.1.2.2.2.2 _ lkX3_add_5, trivial⟩ FrX.none rfl rfl (Nat.le_of_ble_eq_true rfl) dX3_add_45 ⟨Nat.zero_le _, Nat.zero_le _⟩ ?_
      refine jn1_e (fun (li_64 : (Nat → Int32)) => WW p l e rmX3_add s m args below meth c Q D A 5 0 0 (nW cI cJ cZ cN cM na sz sa mo li_64 lo he) [(0, .ref (na 0)), (1, .int v1), (3, .int v3), (4, .int v4)] 64 []) hf ?_ ?_
      · intro li_64 hf
        refine q_iinc C (v4 + 1) 3 [(4, .int (v4 + 1)), (0, .ref (na 0)), (1, .int v1), (3, .int v3)] dX3_add_64 rfl rfl (by decide) rfl ?_
        refine q_goto C 36 dX3_add_67 (by decide) ?_
        refine q_lv [(0, .ref (na 0)), (1, .int v1), (3, .int v3), (4, .int (v4 + 1))] [1, 2, 3, 0] rfl ?_
        exact ih _ _ hf
      intro k64 J64 hf
      refine q_if_eq C 64 dX3_add_48 (by decide) hf (fun hf => ?_) (fun hf => ?_)
      · exact J64 _ hf
      · refine q_aload_n C 0 dX3_add_51 rfl ?_
        refine q_get C 0 3 dX3_add_52 rfl rfl (Nat.le_of_ble_eq_true rfl) inX3_add_X3 lkX3_add_2 rfl rfl ?_
        refine q_iload C 3 dX3_add_55 rfl ?_
        refine q_dup2 C dX3_add_57 rfl rfl ?_
        refine q_iald C 1 0 dX3_add_58 rfl rfl hf (fun x58 hf => ?_)
        refine q_iconst C 1 dX3_add_59 (by decide) ?_
        refine q_iload_n C 2 dX3_add_60 rfl ?_
        refine q_ishl C dX3_add_61 ?_
        refine q_ior C dX3_add_62 ?_
        refine q_iast C 1 0 (fun li_63 => nW cI cJ cZ cN cM na sz sa mo li_63 lo he) dX3_add_63 rfl rfl (fun _ => rfl) hf (fun li_63 hf => ?_)
        exact J64 _ hf
set_option maxRecDepth 100000 in
set_option maxHeartbeats 4000000 in
theorem kX3_add (l : Launch) (D : va_G) (cI cJ cZ cN cM : ClassId) (na : Nat → Nat) (sz : Int32) (sa : Int32) (mo : Int32) (li : (Nat → Int32)) (lo : (Nat → Int32)) (he : (Nat → Int32)) (v1 : Int32) (v2 : Int32) (sz_o : Int32) (li_o : (Nat → Int32)) (lo_o : (Nat → Int32)) (he_o : (Nat → Int32)) (hf : fX3_add sz li lo he v1 v2 = some (sz_o, li_o, lo_o, he_o)) : MetV l yX3_add wsX3_add rmX3_add D (TYL cI cJ cZ cN cM) [.ref (na 0), .int v1, .int v2] (nW cI cJ cZ cN cM na sz sa mo li lo he) (nW cI cJ cZ cN cM na sz_o sa mo li_o lo_o he_o) := by
  refine MetV.mk (cc := cX3_add) (maxL := 5) (own := RX3) [(0, .ref (na 0)), (1, .int v1), (2, .int v2)] (by decide +kernel) rfl rfl (Nat.le_of_ble_eq_true rfl) rfl ?_
  intro p e s m args below meth c A Q C hret
  unfold fX3_add at hf
  refine q_aload_n C 0 dX3_add_0 rfl ?_
  refine q_get C 0 0 dX3_add_1 rfl rfl (Nat.le_of_ble_eq_true rfl) inX3_add_X3 lkX3_add_1 rfl rfl ?_
  refine q_istore_n C [(3, .int sz), (0, .ref (na 0)), (1, .int v1), (2, .int v2)] dX3_add_4 (by decide) rfl ?_
  refine q_iload_n C 0 dX3_add_5 rfl ?_
  refine q_bipush C 9 dX3_add_6 (by decide) ?_
  refine q_icmp_lt C 12 dX3_add_8 (by decide) hf (fun hf => ?_) (fun hf => ?_)
  · refine q_aload_n C 1 dX3_add_12 rfl ?_
    refine q_get C 0 3 dX3_add_13 rfl rfl (Nat.le_of_ble_eq_true rfl) inX3_add_X3 lkX3_add_2 rfl rfl ?_
    refine q_iload_n C 0 dX3_add_16 rfl ?_
    refine q_iload_n C 2 dX3_add_17 rfl ?_
    refine q_iast C 1 0 (fun li_18 => nW cI cJ cZ cN cM na sz sa mo li_18 lo he) dX3_add_18 rfl rfl (fun _ => rfl) hf (fun li_18 hf => ?_)
    refine q_aload_n C 1 dX3_add_19 rfl ?_
    refine q_get C 0 4 dX3_add_20 rfl rfl (Nat.le_of_ble_eq_true rfl) inX3_add_X3 lkX3_add_3 rfl rfl ?_
    refine q_iload_n C 0 dX3_add_23 rfl ?_
    refine q_iconst C 0 dX3_add_24 (by decide) ?_
    refine q_iast C 2 0 (fun lo_25 => nW cI cJ cZ cN cM na sz sa mo li_18 lo_25 he) dX3_add_25 rfl rfl (fun _ => rfl) hf (fun lo_25 hf => ?_)
    refine q_aload_n C 1 dX3_add_26 rfl ?_
    refine q_get C 0 5 dX3_add_27 rfl rfl (Nat.le_of_ble_eq_true rfl) inX3_add_X3 lkX3_add_4 rfl rfl ?_
    refine q_iload_n C 0 dX3_add_30 rfl ?_
    refine q_iload_n C 3 dX3_add_31 rfl ?_
    refine q_iast C 3 0 (fun he_32 => nW cI cJ cZ cN cM na sz sa mo li_18 lo_25 he_32) dX3_add_32 rfl rfl (fun _ => rfl) hf (fun he_32 hf => ?_)
    refine q_iconst C 0 dX3_add_33 (by decide) ?_
    refine q_istore C [(4, .int (0 : Int32)), (3, .int sz), (0, .ref (na 0)), (1, .int v1), (2, .int v2)] dX3_add_34 (by decide) rfl ?_
    obtain ⟨li_36, hL, hf⟩ := bd_e hf
    refine q_lv [(0, .ref (na 0)), (1, .int v1), (3, .int sz), (4, .int (0 : Int32))] [2, 3, 1, 0] rfl ?_
    refine wX3_add_L36 C na sz sa mo lo_25 he_32 v1 sz li_36 ?_ 300 _ _ hL
    refine q_aload_n C 0 dX3_add_70 rfl ?_
    refine q_dup C dX3_add_71 rfl ?_
    refine q_get C 0 0 dX3_add_72 rfl rfl (Nat.le_of_ble_eq_true rfl) inX3_add_X3 lkX3_add_1 rfl rfl ?_
    refine q_iconst C 1 dX3_add_75 (by decide) ?_
    refine q_iadd C dX3_add_76 ?_
    refine q_put C 0 0 (nW cI cJ cZ cN cM na (sz + (1 : Int32)) sa mo li_36 lo_25 he_32) dX3_add_77 rfl rfl (Nat.le_of_ble_eq_true rfl) inX3_add_X3 tyX3 tyX3_ok nmX3 lkX3_add_1 rfl rfl rfl rfl (Nat.le_of_ble_eq_true rfl) rfl ?_
    have hy0 := Option.some.inj hf
    clear hf
    obtain ⟨hz1, hy1⟩ := Prod.mk.inj hy0
    clear hy0
    obtain ⟨hz2, hy2⟩ := Prod.mk.inj hy1
    clear hy1
    obtain ⟨hz3, hy3⟩ := Prod.mk.inj hy2
    clear hy2
    subst hz1
    subst hz2
    subst hz3
    subst hy3
    exact hret _ _ dX3_add_80
  · have hy0 := Option.some.inj hf
    clear hf
    obtain ⟨hz1, hy1⟩ := Prod.mk.inj hy0
    clear hy0
    obtain ⟨hz2, hy2⟩ := Prod.mk.inj hy1
    clear hy1
    obtain ⟨hz3, hy3⟩ := Prod.mk.inj hy2
    clear hy2
    subst hz1
    subst hz2
    subst hz3
    subst hy3
    exact hret _ _ dX3_add_11

theorem lkX3_dropLatest_1 : Cond.fieldLink RX3 9 "TwiceHeard$Net" "size" "I" ∈ wsX3_dropLatest := List.mem_of_getElem? (i := 1) rfl
theorem lkX3_dropLatest_2 : Cond.fieldLink RX3 15 "TwiceHeard$Net" "linked" "[I" ∈ wsX3_dropLatest := List.mem_of_getElem? (i := 2) rfl
theorem lkX3_dropLatest_3 : Cond.fieldLink RX3 19 "TwiceHeard$Net" "lost" "[I" ∈ wsX3_dropLatest := List.mem_of_getElem? (i := 3) rfl
theorem lkX3_dropLatest_4 : Cond.fieldLink RX3 22 "TwiceHeard$Net" "heard" "[I" ∈ wsX3_dropLatest := List.mem_of_getElem? (i := 4) rfl
theorem inX3_dropLatest_X3 : ∀ w ∈ wsX30, w ∈ wsX3_dropLatest := fun w h => List.mem_cons_of_mem _ (List.mem_append_right _ h)
abbrev rmX3_dropLatest : Room := { frames := 1, cells := 0, slots := 0, locals := 20 }
theorem hdX3_dropLatest : yX3_dropLatest.cls = RX3 ∧ yX3_dropLatest.cls ≠ "java/lang/invoke/MethodHandle" ∧ yX3_dropLatest.cls ≠ "java/lang/invoke/VarHandle" ∧ (parseMethodDescriptor yX3_dropLatest.desc).map (fun d => d.parameters.length) = some 0 := by decide +kernel
def fX3_dropLatest_L56 (sz : Int32) (v1 : Int32) : Nat → Int32 → (Nat → Int32) → (Nat → Int32) → Option ((Nat → Int32) × (Nat → Int32))
  | 0, _, _, _ => none
  | n + 1, v2, li, lo =>
  if sz ≤ v2 then (
  some (li, lo)) else (
  (rdI 9 li v2).bind fun x70 =>
  (wrI 9 li v2 (x70 &&& v1)).bind fun li_73 =>
  (rdI 9 lo v2).bind fun x80 =>
  (wrI 9 lo v2 (x80 &&& v1)).bind fun lo_83 =>
  fX3_dropLatest_L56 sz v1 n (v2 + 1) li_73 lo_83)
def fX3_dropLatest (sz : Int32) (li : (Nat → Int32)) (lo : (Nat → Int32)) (he : (Nat → Int32))  : Option (Int32 × (Nat → Int32) × (Nat → Int32) × (Nat → Int32)) :=
  if (1 : Int32) < sz then (
  (wrI 9 li (sz - (1 : Int32)) (0 : Int32)).bind fun li_28 =>
  (wrI 9 lo (sz - (1 : Int32)) (0 : Int32)).bind fun lo_38 =>
  (wrI 9 he (sz - (1 : Int32)) (0 : Int32)).bind fun he_48 =>
  (fX3_everyone (sz - (1 : Int32))).bind fun x50 =>
  bd2 (fX3_dropLatest_L56 (sz - (1 : Int32)) x50 300 (0 : Int32) li_28 lo_38) fun li_56 lo_56 =>
  some ((sz - (1 : Int32)), li_56, lo_56, he_48)) else (
  some (sz, li, lo, he))
set_option maxRecDepth 100000 in
set_option maxHeartbeats 4000000 in
theorem wX3_dropLatest_L56 {p : Program} {l : Launch} {e : Env} {s : State} {m : MethodId} {args : Array Value} {below : List Frame} {meth : Method} {c : Code} {Q : State → Prop} {D : va_G} {A : Nat → Prop} {cI cJ cZ cN cM : ClassId} (C : Cx p s m args c cX3_dropLatest 3 RX3 wsX3_dropLatest D (TYL cI cJ cZ cN cM) A) (na : Nat → Nat) (sz : Int32) (sa : Int32) (mo : Int32) (he : (Nat → Int32)) (v1 : Int32) (li_o : (Nat → Int32)) (lo_o : (Nat → Int32)) (kk : WW p l e rmX3_dropLatest s m args below meth c Q D A 3 0 0 (nW cI cJ cZ cN cM na sz sa mo li_o lo_o he) [] 90 []) : ∀ (n : Nat) (v2 : Int32) (li : (Nat → Int32)) (lo : (Nat → Int32)), fX3_dropLatest_L56 sz v1 n v2 li lo = some (li_o, lo_o) → WW p l e rmX3_dropLatest s m args below meth c Q D A 3 0 0 (nW cI cJ cZ cN cM na sz sa mo li lo he) [(0, .ref (na 0)), (1, .int v1), (2, .int v2)] 56 [] := by
  intro n
  induction n with
  | zero =>
    intro v2 li lo hf
    rw [fX3_dropLatest_L56] at hf
    cases hf
  | succ n ih =>
    intro v2 li lo hf
    rw [fX3_dropLatest_L56] at hf
    refine q_iload_n C 2 dX3_dropLatest_56 rfl ?_
    refine q_aload_n C 0 dX3_dropLatest_57 rfl ?_
    refine q_get C 0 0 dX3_dropLatest_58 rfl rfl (Nat.le_of_ble_eq_true rfl) inX3_dropLatest_X3 lkX3_dropLatest_1 rfl rfl ?_
    refine q_icmp_ge C 90 dX3_dropLatest_61 (by decide) hf (fun hf => ?_) (fun hf => ?_)
    · refine q_lv [] [] rfl ?_
      have hy0 := Option.some.inj hf
      clear hf
      obtain ⟨hz1, hy1⟩ := Prod.mk.inj hy0
      clear hy0
      subst hz1
      subst hy1
      exact kk
    · refine q_aload_n C 0 dX3_dropLatest_64 rfl ?_
      refine q_get C 0 3 dX3_dropLatest_65 rfl rfl (Nat.le_of_ble_eq_true rfl) inX3_dropLatest_X3 lkX3_dropLatest_2 rfl rfl ?_
      refine q_iload_n C 2 dX3_dropLatest_68 rfl ?_
      refine q_dup2 C dX3_dropLatest_69 rfl rfl ?_
      refine q_iald C 1 0 dX3_dropLatest_70 rfl rfl hf (fun x70 hf => ?_)
      refine q_iload_n C 1 dX3_dropLatest_71 rfl ?_
      refine q_iand C dX3_dropLatest_72 ?_
      refine q_iast C 1 0 (fun li_73 => nW cI cJ cZ cN cM na sz sa mo li_73 lo he) dX3_dropLatest_73 rfl rfl (fun _ => rfl) hf (fun li_73 hf => ?_)
      refine q_aload_n C 0 dX3_dropLatest_74 rfl ?_
      refine q_get C 0 4 dX3_dropLatest_75 rfl rfl (Nat.le_of_ble_eq_true rfl) inX3_dropLatest_X3 lkX3_dropLatest_3 rfl rfl ?_
      refine q_iload_n C 2 dX3_dropLatest_78 rfl ?_
      refine q_dup2 C dX3_dropLatest_79 rfl rfl ?_
      refine q_iald C 2 0 dX3_dropLatest_80 rfl rfl hf (fun x80 hf => ?_)
      refine q_iload_n C 1 dX3_dropLatest_81 rfl ?_
      refine q_iand C dX3_dropLatest_82 ?_
      refine q_iast C 2 0 (fun lo_83 => nW cI cJ cZ cN cM na sz sa mo li_73 lo_83 he) dX3_dropLatest_83 rfl rfl (fun _ => rfl) hf (fun lo_83 hf => ?_)
      refine q_iinc C (v2 + 1) 2 [(2, .int (v2 + 1)), (0, .ref (na 0)), (1, .int v1)] dX3_dropLatest_84 rfl rfl (by decide) rfl ?_
      refine q_goto C 56 dX3_dropLatest_87 (by decide) ?_
      refine q_lv [(0, .ref (na 0)), (1, .int v1), (2, .int (v2 + 1))] [1, 2, 0] rfl ?_
      exact ih _ _ _ hf
set_option maxRecDepth 100000 in
set_option maxHeartbeats 4000000 in
theorem kX3_dropLatest (l : Launch) (D : va_G) (cI cJ cZ cN cM : ClassId) (na : Nat → Nat) (sz : Int32) (sa : Int32) (mo : Int32) (li : (Nat → Int32)) (lo : (Nat → Int32)) (he : (Nat → Int32))  (sz_o : Int32) (li_o : (Nat → Int32)) (lo_o : (Nat → Int32)) (he_o : (Nat → Int32)) (hf : fX3_dropLatest sz li lo he = some (sz_o, li_o, lo_o, he_o)) : MetV l yX3_dropLatest wsX3_dropLatest rmX3_dropLatest D (TYL cI cJ cZ cN cM) [.ref (na 0)] (nW cI cJ cZ cN cM na sz sa mo li lo he) (nW cI cJ cZ cN cM na sz_o sa mo li_o lo_o he_o) := by
  refine MetV.mk (cc := cX3_dropLatest) (maxL := 3) (own := RX3) [(0, .ref (na 0))] (by decide +kernel) rfl rfl (Nat.le_of_ble_eq_true rfl) rfl ?_
  intro p e s m args below meth c A Q C hret
  unfold fX3_dropLatest at hf
  refine q_aload_n C 0 dX3_dropLatest_0 rfl ?_
  refine q_get C 0 0 dX3_dropLatest_1 rfl rfl (Nat.le_of_ble_eq_true rfl) inX3_dropLatest_X3 lkX3_dropLatest_1 rfl rfl ?_
  refine q_iconst C 1 dX3_dropLatest_4 (by decide) ?_
  refine q_icmp_gt C 9 dX3_dropLatest_5 (by decide) hf (fun hf => ?_) (fun hf => ?_)
  · refine q_aload_n C 0 dX3_dropLatest_9 rfl ?_
    refine q_dup C dX3_dropLatest_10 rfl ?_
    refine q_get C 0 0 dX3_dropLatest_11 rfl rfl (Nat.le_of_ble_eq_true rfl) inX3_dropLatest_X3 lkX3_dropLatest_1 rfl rfl ?_
    refine q_iconst C 1 dX3_dropLatest_14 (by decide) ?_
    refine q_isub C dX3_dropLatest_15 ?_
    refine q_put C 0 0 (nW cI cJ cZ cN cM na (sz - (1 : Int32)) sa mo li lo he) dX3_dropLatest_16 rfl rfl (Nat.le_of_ble_eq_true rfl) inX3_dropLatest_X3 tyX3 tyX3_ok nmX3 lkX3_dropLatest_1 rfl rfl rfl rfl (Nat.le_of_ble_eq_true rfl) rfl ?_
    refine q_aload_n C 0 dX3_dropLatest_19 rfl ?_
    refine q_get C 0 3 dX3_dropLatest_20 rfl rfl (Nat.le_of_ble_eq_true rfl) inX3_dropLatest_X3 lkX3_dropLatest_2 rfl rfl ?_
    refine q_aload_n C 0 dX3_dropLatest_23 rfl ?_
    refine q_get C 0 0 dX3_dropLatest_24 rfl rfl (Nat.le_of_ble_eq_true rfl) inX3_dropLatest_X3 lkX3_dropLatest_1 rfl rfl ?_
    refine q_iconst C 0 dX3_dropLatest_27 (by decide) ?_
    refine q_iast C 1 0 (fun li_28 => nW cI cJ cZ cN cM na (sz - (1 : Int32)) sa mo li_28 lo he) dX3_dropLatest_28 rfl rfl (fun _ => rfl) hf (fun li_28 hf => ?_)
    refine q_aload_n C 0 dX3_dropLatest_29 rfl ?_
    refine q_get C 0 4 dX3_dropLatest_30 rfl rfl (Nat.le_of_ble_eq_true rfl) inX3_dropLatest_X3 lkX3_dropLatest_3 rfl rfl ?_
    refine q_aload_n C 0 dX3_dropLatest_33 rfl ?_
    refine q_get C 0 0 dX3_dropLatest_34 rfl rfl (Nat.le_of_ble_eq_true rfl) inX3_dropLatest_X3 lkX3_dropLatest_1 rfl rfl ?_
    refine q_iconst C 0 dX3_dropLatest_37 (by decide) ?_
    refine q_iast C 2 0 (fun lo_38 => nW cI cJ cZ cN cM na (sz - (1 : Int32)) sa mo li_28 lo_38 he) dX3_dropLatest_38 rfl rfl (fun _ => rfl) hf (fun lo_38 hf => ?_)
    refine q_aload_n C 0 dX3_dropLatest_39 rfl ?_
    refine q_get C 0 5 dX3_dropLatest_40 rfl rfl (Nat.le_of_ble_eq_true rfl) inX3_dropLatest_X3 lkX3_dropLatest_4 rfl rfl ?_
    refine q_aload_n C 0 dX3_dropLatest_43 rfl ?_
    refine q_get C 0 0 dX3_dropLatest_44 rfl rfl (Nat.le_of_ble_eq_true rfl) inX3_dropLatest_X3 lkX3_dropLatest_1 rfl rfl ?_
    refine q_iconst C 0 dX3_dropLatest_47 (by decide) ?_
    refine q_iast C 3 0 (fun he_48 => nW cI cJ cZ cN cM na (sz - (1 : Int32)) sa mo li_28 lo_38 he_48) dX3_dropLatest_48 rfl rfl (fun _ => rfl) hf (fun he_48 hf => ?_)
    refine q_aload_n C 0 dX3_dropLatest_49 rfl ?_
    obtain ⟨x50, hM, hf⟩ := bd_e hf
    refine q_callVI C (nW cI cJ cZ cN cM na (sz - (1 : Int32)) sa mo li_28 lo_38 he_48) (kX3_everyone l D cI cJ cZ cN cM na (sz - (1 : Int32)) sa mo li_28 lo_38 he_48  x50 hM) (cwV 0 C.1.2.2.2.2 gX3_dropLatest_X3_everyone rfl rfl rfl hdX3_everyone ⟨Nat.le_of_ble_eq_true rfl, Nat.le_of_ble_eq_true rfl⟩) 0 3 rfl rfl FrX.all rfl rfl (Nat.le_of_ble_eq_true rfl) dX3_dropLatest_50 ⟨Nat.zero_le _, Nat.zero_le _⟩ ?_
    refine q_istore_n C [(1, .int x50), (0, .ref (na 0))] dX3_dropLatest_53 (by decide) rfl ?_
    refine q_iconst C 0 dX3_dropLatest_54 (by decide) ?_
    refine q_istore_n C [(2, .int (0 : Int32)), (1, .int x50), (0, .ref (na 0))] dX3_dropLatest_55 (by decide) rfl ?_
    obtain ⟨li_56, lo_56, hL, hf⟩ := bd2_e hf
    refine q_lv [(0, .ref (na 0)), (1, .int x50), (2, .int (0 : Int32))] [2, 1, 0] rfl ?_
    refine wX3_dropLatest_L56 C na (sz - (1 : Int32)) sa mo he_48 x50 li_56 lo_56 ?_ 300 _ _ _ hL
    have hy0 := Option.some.inj hf
    clear hf
    obtain ⟨hz1, hy1⟩ := Prod.mk.inj hy0
    clear hy0
    obtain ⟨hz2, hy2⟩ := Prod.mk.inj hy1
    clear hy1
    obtain ⟨hz3, hy3⟩ := Prod.mk.inj hy2
    clear hy2
    subst hz1
    subst hz2
    subst hz3
    subst hy3
    exact hret _ _ dX3_dropLatest_90
  · have hy0 := Option.some.inj hf
    clear hf
    obtain ⟨hz1, hy1⟩ := Prod.mk.inj hy0
    clear hy0
    obtain ⟨hz2, hy2⟩ := Prod.mk.inj hy1
    clear hy1
    obtain ⟨hz3, hy3⟩ := Prod.mk.inj hy2
    clear hy2
    subst hz1
    subst hz2
    subst hz3
    subst hy3
    exact hret _ _ dX3_dropLatest_8

theorem lkX3_turnLink_1 : Cond.fieldLink RX3 15 "TwiceHeard$Net" "linked" "[I" ∈ wsX3_turnLink := List.mem_of_getElem? (i := 1) rfl
theorem lkX3_turnLink_2 : Cond.fieldLink RX3 19 "TwiceHeard$Net" "lost" "[I" ∈ wsX3_turnLink := List.mem_of_getElem? (i := 2) rfl
theorem inX3_turnLink_X3 : ∀ w ∈ wsX30, w ∈ wsX3_turnLink := fun w h => List.mem_cons_of_mem _ (List.mem_append_right _ h)
abbrev rmX3_turnLink : Room := { frames := 0, cells := 0, slots := 0, locals := 0 }
theorem hdX3_turnLink : yX3_turnLink.cls = RX3 ∧ yX3_turnLink.cls ≠ "java/lang/invoke/MethodHandle" ∧ yX3_turnLink.cls ≠ "java/lang/invoke/VarHandle" ∧ (parseMethodDescriptor yX3_turnLink.desc).map (fun d => d.parameters.length) = some 2 := by decide +kernel
def fX3_turnLink (li : (Nat → Int32)) (lo : (Nat → Int32)) (v1 : Int32) (v2 : Int32) : Option ((Nat → Int32) × (Nat → Int32)) :=
  (rdI 9 li v1).bind fun x6 =>
  (wrI 9 li v1 (x6 ^^^ ((1 : Int32) <<< (v2 &&& 31)))).bind fun li_11 =>
  (rdI 9 li_11 v2).bind fun x18 =>
  (wrI 9 li_11 v2 (x18 ^^^ ((1 : Int32) <<< (v1 &&& 31)))).bind fun li_23 =>
  (rdI 9 lo v1).bind fun x30 =>
  (rdI 9 li_23 v1).bind fun x36 =>
  (wrI 9 lo v1 (x30 &&& x36)).bind fun lo_38 =>
  (rdI 9 lo_38 v2).bind fun x45 =>
  (rdI 9 li_23 v2).bind fun x51 =>
  (wrI 9 lo_38 v2 (x45 &&& x51)).bind fun lo_53 =>
  some (li_23, lo_53)
set_option maxRecDepth 100000 in
set_option maxHeartbeats 4000000 in
theorem kX3_turnLink (l : Launch) (D : va_G) (cI cJ cZ cN cM : ClassId) (na : Nat → Nat) (sz : Int32) (sa : Int32) (mo : Int32) (li : (Nat → Int32)) (lo : (Nat → Int32)) (he : (Nat → Int32)) (v1 : Int32) (v2 : Int32) (li_o : (Nat → Int32)) (lo_o : (Nat → Int32)) (hf : fX3_turnLink li lo v1 v2 = some (li_o, lo_o)) : MetV l yX3_turnLink wsX3_turnLink rmX3_turnLink D (TYL cI cJ cZ cN cM) [.ref (na 0), .int v1, .int v2] (nW cI cJ cZ cN cM na sz sa mo li lo he) (nW cI cJ cZ cN cM na sz sa mo li_o lo_o he) := by
  refine MetV.mk (cc := cX3_turnLink) (maxL := 3) (own := RX3) [(0, .ref (na 0)), (1, .int v1), (2, .int v2)] (by decide +kernel) rfl rfl (Nat.le_of_ble_eq_true rfl) rfl ?_
  intro p e s m args below meth c A Q C hret
  unfold fX3_turnLink at hf
  refine q_aload_n C 0 dX3_turnLink_0 rfl ?_
  refine q_get C 0 3 dX3_turnLink_1 rfl rfl (Nat.le_of_ble_eq_true rfl) inX3_turnLink_X3 lkX3_turnLink_1 rfl rfl ?_
  refine q_iload_n C 1 dX3_turnLink_4 rfl ?_
  refine q_dup2 C dX3_turnLink_5 rfl rfl ?_
  refine q_iald C 1 0 dX3_turnLink_6 rfl rfl hf (fun x6 hf => ?_)
  refine q_iconst C 1 dX3_turnLink_7 (by decide) ?_
  refine q_iload_n C 2 dX3_turnLink_8 rfl ?_
  refine q_ishl C dX3_turnLink_9 ?_
  refine q_ixor C dX3_turnLink_10 ?_
  refine q_iast C 1 0 (fun li_11 => nW cI cJ cZ cN cM na sz sa mo li_11 lo he) dX3_turnLink_11 rfl rfl (fun _ => rfl) hf (fun li_11 hf => ?_)
  refine q_aload_n C 0 dX3_turnLink_12 rfl ?_
  refine q_get C 0 3 dX3_turnLink_13 rfl rfl (Nat.le_of_ble_eq_true rfl) inX3_turnLink_X3 lkX3_turnLink_1 rfl rfl ?_
  refine q_iload_n C 2 dX3_turnLink_16 rfl ?_
  refine q_dup2 C dX3_turnLink_17 rfl rfl ?_
  refine q_iald C 1 0 dX3_turnLink_18 rfl rfl hf (fun x18 hf => ?_)
  refine q_iconst C 1 dX3_turnLink_19 (by decide) ?_
  refine q_iload_n C 1 dX3_turnLink_20 rfl ?_
  refine q_ishl C dX3_turnLink_21 ?_
  refine q_ixor C dX3_turnLink_22 ?_
  refine q_iast C 1 0 (fun li_23 => nW cI cJ cZ cN cM na sz sa mo li_23 lo he) dX3_turnLink_23 rfl rfl (fun _ => rfl) hf (fun li_23 hf => ?_)
  refine q_aload_n C 0 dX3_turnLink_24 rfl ?_
  refine q_get C 0 4 dX3_turnLink_25 rfl rfl (Nat.le_of_ble_eq_true rfl) inX3_turnLink_X3 lkX3_turnLink_2 rfl rfl ?_
  refine q_iload_n C 1 dX3_turnLink_28 rfl ?_
  refine q_dup2 C dX3_turnLink_29 rfl rfl ?_
  refine q_iald C 2 0 dX3_turnLink_30 rfl rfl hf (fun x30 hf => ?_)
  refine q_aload_n C 0 dX3_turnLink_31 rfl ?_
  refine q_get C 0 3 dX3_turnLink_32 rfl rfl (Nat.le_of_ble_eq_true rfl) inX3_turnLink_X3 lkX3_turnLink_1 rfl rfl ?_
  refine q_iload_n C 1 dX3_turnLink_35 rfl ?_
  refine q_iald C 1 0 dX3_turnLink_36 rfl rfl hf (fun x36 hf => ?_)
  refine q_iand C dX3_turnLink_37 ?_
  refine q_iast C 2 0 (fun lo_38 => nW cI cJ cZ cN cM na sz sa mo li_23 lo_38 he) dX3_turnLink_38 rfl rfl (fun _ => rfl) hf (fun lo_38 hf => ?_)
  refine q_aload_n C 0 dX3_turnLink_39 rfl ?_
  refine q_get C 0 4 dX3_turnLink_40 rfl rfl (Nat.le_of_ble_eq_true rfl) inX3_turnLink_X3 lkX3_turnLink_2 rfl rfl ?_
  refine q_iload_n C 2 dX3_turnLink_43 rfl ?_
  refine q_dup2 C dX3_turnLink_44 rfl rfl ?_
  refine q_iald C 2 0 dX3_turnLink_45 rfl rfl hf (fun x45 hf => ?_)
  refine q_aload_n C 0 dX3_turnLink_46 rfl ?_
  refine q_get C 0 3 dX3_turnLink_47 rfl rfl (Nat.le_of_ble_eq_true rfl) inX3_turnLink_X3 lkX3_turnLink_1 rfl rfl ?_
  refine q_iload_n C 2 dX3_turnLink_50 rfl ?_
  refine q_iald C 1 0 dX3_turnLink_51 rfl rfl hf (fun x51 hf => ?_)
  refine q_iand C dX3_turnLink_52 ?_
  refine q_iast C 2 0 (fun lo_53 => nW cI cJ cZ cN cM na sz sa mo li_23 lo_53 he) dX3_turnLink_53 rfl rfl (fun _ => rfl) hf (fun lo_53 hf => ?_)
  have hy0 := Option.some.inj hf
  clear hf
  obtain ⟨hz1, hy1⟩ := Prod.mk.inj hy0
  clear hy0
  subst hz1
  subst hy1
  exact hret _ _ dX3_turnLink_54

theorem lkX3_turnLost_1 : Cond.fieldLink RX3 19 "TwiceHeard$Net" "lost" "[I" ∈ wsX3_turnLost := List.mem_of_getElem? (i := 1) rfl
theorem inX3_turnLost_X3 : ∀ w ∈ wsX30, w ∈ wsX3_turnLost := fun w h => List.mem_cons_of_mem _ (List.mem_append_right _ h)
abbrev rmX3_turnLost : Room := { frames := 0, cells := 0, slots := 0, locals := 0 }
theorem hdX3_turnLost : yX3_turnLost.cls = RX3 ∧ yX3_turnLost.cls ≠ "java/lang/invoke/MethodHandle" ∧ yX3_turnLost.cls ≠ "java/lang/invoke/VarHandle" ∧ (parseMethodDescriptor yX3_turnLost.desc).map (fun d => d.parameters.length) = some 2 := by decide +kernel
def fX3_turnLost (lo : (Nat → Int32)) (v1 : Int32) (v2 : Int32) : Option ((Nat → Int32)) :=
  (rdI 9 lo v1).bind fun x6 =>
  (wrI 9 lo v1 (x6 ^^^ ((1 : Int32) <<< (v2 &&& 31)))).bind fun lo_11 =>
  (rdI 9 lo_11 v2).bind fun x18 =>
  (wrI 9 lo_11 v2 (x18 ^^^ ((1 : Int32) <<< (v1 &&& 31)))).bind fun lo_23 =>
  some lo_23
set_option maxRecDepth 100000 in
set_option maxHeartbeats 4000000 in
theorem kX3_turnLost (l : Launch) (D : va_G) (cI cJ cZ cN cM : ClassId) (na : Nat → Nat) (sz : Int32) (sa : Int32) (mo : Int32) (li : (Nat → Int32)) (lo : (Nat → Int32)) (he : (Nat → Int32)) (v1 : Int32) (v2 : Int32) (lo_o : (Nat → Int32)) (hf : fX3_turnLost lo v1 v2 = some lo_o) : MetV l yX3_turnLost wsX3_turnLost rmX3_turnLost D (TYL cI cJ cZ cN cM) [.ref (na 0), .int v1, .int v2] (nW cI cJ cZ cN cM na sz sa mo li lo he) (nW cI cJ cZ cN cM na sz sa mo li lo_o he) := by
  refine MetV.mk (cc := cX3_turnLost) (maxL := 3) (own := RX3) [(0, .ref (na 0)), (1, .int v1), (2, .int v2)] (by decide +kernel) rfl rfl (Nat.le_of_ble_eq_true rfl) rfl ?_
  intro p e s m args below meth c A Q C hret
  unfold fX3_turnLost at hf
  refine q_aload_n C 0 dX3_turnLost_0 rfl ?_
  refine q_get C 0 4 dX3_turnLost_1 rfl rfl (Nat.le_of_ble_eq_true rfl) inX3_turnLost_X3 lkX3_turnLost_1 rfl rfl ?_
  refine q_iload_n C 1 dX3_turnLost_4 rfl ?_
  refine q_dup2 C dX3_turnLost_5 rfl rfl ?_
  refine q_iald C 2 0 dX3_turnLost_6 rfl rfl hf (fun x6 hf => ?_)
  refine q_iconst C 1 dX3_turnLost_7 (by decide) ?_
  refine q_iload_n C 2 dX3_turnLost_8 rfl ?_
  refine q_ishl C dX3_turnLost_9 ?_
  refine q_ixor C dX3_turnLost_10 ?_
  refine q_iast C 2 0 (fun lo_11 => nW cI cJ cZ cN cM na sz sa mo li lo_11 he) dX3_turnLost_11 rfl rfl (fun _ => rfl) hf (fun lo_11 hf => ?_)
  refine q_aload_n C 0 dX3_turnLost_12 rfl ?_
  refine q_get C 0 4 dX3_turnLost_13 rfl rfl (Nat.le_of_ble_eq_true rfl) inX3_turnLost_X3 lkX3_turnLost_1 rfl rfl ?_
  refine q_iload_n C 2 dX3_turnLost_16 rfl ?_
  refine q_dup2 C dX3_turnLost_17 rfl rfl ?_
  refine q_iald C 2 0 dX3_turnLost_18 rfl rfl hf (fun x18 hf => ?_)
  refine q_iconst C 1 dX3_turnLost_19 (by decide) ?_
  refine q_iload_n C 1 dX3_turnLost_20 rfl ?_
  refine q_ishl C dX3_turnLost_21 ?_
  refine q_ixor C dX3_turnLost_22 ?_
  refine q_iast C 2 0 (fun lo_23 => nW cI cJ cZ cN cM na sz sa mo li lo_23 he) dX3_turnLost_23 rfl rfl (fun _ => rfl) hf (fun lo_23 hf => ?_)
  have hz1 := Option.some.inj hf
  clear hf
  subst hz1
  exact hret _ _ dX3_turnLost_24

theorem lkX3_turnItem_1 : Cond.fieldLink RX3 22 "TwiceHeard$Net" "heard" "[I" ∈ wsX3_turnItem := List.mem_of_getElem? (i := 1) rfl
theorem inX3_turnItem_X3 : ∀ w ∈ wsX30, w ∈ wsX3_turnItem := fun w h => List.mem_cons_of_mem _ (List.mem_append_right _ h)
abbrev rmX3_turnItem : Room := { frames := 0, cells := 0, slots := 0, locals := 0 }
theorem hdX3_turnItem : yX3_turnItem.cls = RX3 ∧ yX3_turnItem.cls ≠ "java/lang/invoke/MethodHandle" ∧ yX3_turnItem.cls ≠ "java/lang/invoke/VarHandle" ∧ (parseMethodDescriptor yX3_turnItem.desc).map (fun d => d.parameters.length) = some 2 := by decide +kernel
def fX3_turnItem (he : (Nat → Int32)) (v1 : Int32) (v2 : Int32) : Option ((Nat → Int32)) :=
  (rdI 9 he v1).bind fun x6 =>
  (wrI 9 he v1 (x6 ^^^ ((1 : Int32) <<< (v2 &&& 31)))).bind fun he_11 =>
  some he_11
set_option maxRecDepth 100000 in
set_option maxHeartbeats 4000000 in
theorem kX3_turnItem (l : Launch) (D : va_G) (cI cJ cZ cN cM : ClassId) (na : Nat → Nat) (sz : Int32) (sa : Int32) (mo : Int32) (li : (Nat → Int32)) (lo : (Nat → Int32)) (he : (Nat → Int32)) (v1 : Int32) (v2 : Int32) (he_o : (Nat → Int32)) (hf : fX3_turnItem he v1 v2 = some he_o) : MetV l yX3_turnItem wsX3_turnItem rmX3_turnItem D (TYL cI cJ cZ cN cM) [.ref (na 0), .int v1, .int v2] (nW cI cJ cZ cN cM na sz sa mo li lo he) (nW cI cJ cZ cN cM na sz sa mo li lo he_o) := by
  refine MetV.mk (cc := cX3_turnItem) (maxL := 3) (own := RX3) [(0, .ref (na 0)), (1, .int v1), (2, .int v2)] (by decide +kernel) rfl rfl (Nat.le_of_ble_eq_true rfl) rfl ?_
  intro p e s m args below meth c A Q C hret
  unfold fX3_turnItem at hf
  refine q_aload_n C 0 dX3_turnItem_0 rfl ?_
  refine q_get C 0 5 dX3_turnItem_1 rfl rfl (Nat.le_of_ble_eq_true rfl) inX3_turnItem_X3 lkX3_turnItem_1 rfl rfl ?_
  refine q_iload_n C 1 dX3_turnItem_4 rfl ?_
  refine q_dup2 C dX3_turnItem_5 rfl rfl ?_
  refine q_iald C 3 0 dX3_turnItem_6 rfl rfl hf (fun x6 hf => ?_)
  refine q_iconst C 1 dX3_turnItem_7 (by decide) ?_
  refine q_iload_n C 2 dX3_turnItem_8 rfl ?_
  refine q_ishl C dX3_turnItem_9 ?_
  refine q_ixor C dX3_turnItem_10 ?_
  refine q_iast C 3 0 (fun he_11 => nW cI cJ cZ cN cM na sz sa mo li lo he_11) dX3_turnItem_11 rfl rfl (fun _ => rfl) hf (fun he_11 hf => ?_)
  have hz1 := Option.some.inj hf
  clear hf
  subst hz1
  exact hret _ _ dX3_turnItem_12
