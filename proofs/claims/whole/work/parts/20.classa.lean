abbrev rmX7_within : Room := { frames := 0, cells := 0, slots := 0, locals := 0 }
theorem hdX7_within : yX7_within.cls ≠ "java/lang/invoke/MethodHandle" ∧ yX7_within.cls ≠ "java/lang/invoke/VarHandle" ∧ (parseMethodDescriptor yX7_within.desc).map (fun d => d.parameters.length) = some 3 := by decide +kernel
def fX7_within  (v0 : Int32) (v1 : Int32) (v2 : Int32) : Option (Int32) :=
  jn0 (
  some (0 : Int32)) fun k14 =>
  if v0 < v1 then (
  k14) else (
  if v2 < v0 then (
  k14) else (
  some (1 : Int32)))
set_option maxRecDepth 100000 in
set_option maxHeartbeats 4000000 in
theorem kX7_within (l : Launch) (D : va_G) (cI cJ cZ cN cM : ClassId)   (v0 : Int32) (v1 : Int32) (v2 : Int32) (r : Int32) (hf : fX7_within v0 v1 v2 = some r) : MetI l yX7_within wsX7_within rmX7_within D (TYL cI cJ cZ cN cM) [.int v0, .int v1, .int v2] ([]) ([]) r := by
  refine MetI.mk (cc := cX7_within) (maxL := 3) (own := RX7) (ty := .boolean) [(0, .int v0), (1, .int v1), (2, .int v2)] (by decide +kernel) rfl rfl (Nat.le_of_ble_eq_true rfl) rfl ?_
  intro p e s m args below meth c A Q C hret
  unfold fX7_within at hf
  refine q_iload_n C 0 dX7_within_0 rfl ?_
  refine q_iload_n C 1 dX7_within_1 rfl ?_
  refine jn0_e (WW p l e rmX7_within s m args below meth c Q D A 3 0 0 ([]) [] 14 []) hf ?_ ?_
  · intro hf
    refine q_iconst C 0 dX7_within_14 (by decide) ?_
    have hz1 := Option.some.inj hf
    clear hf
    subst hz1
    exact hret _ _ dX7_within_15 (by decide)
  intro k14 J14 hf
  refine q_icmp_lt C 14 dX7_within_2 (by decide) hf (fun hf => ?_) (fun hf => ?_)
  · refine q_lv [] [] rfl ?_
    exact J14  hf
  · refine q_iload_n C 0 dX7_within_5 rfl ?_
    refine q_iload_n C 2 dX7_within_6 rfl ?_
    refine q_icmp_gt C 14 dX7_within_7 (by decide) hf (fun hf => ?_) (fun hf => ?_)
    · refine q_lv [] [] rfl ?_
      exact J14  hf
    · refine q_iconst C 1 dX7_within_10 (by decide) ?_
      refine q_goto C 15 dX7_within_11 (by decide) ?_
      have hz1 := Option.some.inj hf
      clear hf
      subst hz1
      exact hret _ _ dX7_within_15 (by decide)

abbrev rmX7_isIn : Room := { frames := 0, cells := 0, slots := 0, locals := 0 }
theorem hdX7_isIn : yX7_isIn.cls ≠ "java/lang/invoke/MethodHandle" ∧ yX7_isIn.cls ≠ "java/lang/invoke/VarHandle" ∧ (parseMethodDescriptor yX7_isIn.desc).map (fun d => d.parameters.length) = some 2 := by decide +kernel
def fX7_isIn  (v0 : Int32) (v1 : Int32) : Option (Int32) :=
  if ((v0 >>> (v1 &&& 31)) &&& (1 : Int32)) = (1 : Int32) then (
  some (1 : Int32)) else (
  some (0 : Int32))
set_option maxRecDepth 100000 in
set_option maxHeartbeats 4000000 in
theorem kX7_isIn (l : Launch) (D : va_G) (cI cJ cZ cN cM : ClassId)   (v0 : Int32) (v1 : Int32) (r : Int32) (hf : fX7_isIn v0 v1 = some r) : MetI l yX7_isIn wsX7_isIn rmX7_isIn D (TYL cI cJ cZ cN cM) [.int v0, .int v1] ([]) ([]) r := by
  refine MetI.mk (cc := cX7_isIn) (maxL := 2) (own := RX7) (ty := .boolean) [(0, .int v0), (1, .int v1)] (by decide +kernel) rfl rfl (Nat.le_of_ble_eq_true rfl) rfl ?_
  intro p e s m args below meth c A Q C hret
  unfold fX7_isIn at hf
  refine q_iload_n C 0 dX7_isIn_0 rfl ?_
  refine q_iload_n C 1 dX7_isIn_1 rfl ?_
  refine q_ishr C dX7_isIn_2 ?_
  refine q_iconst C 1 dX7_isIn_3 (by decide) ?_
  refine q_iand C dX7_isIn_4 ?_
  refine q_iconst C 1 dX7_isIn_5 (by decide) ?_
  refine q_icmp_ne C 13 dX7_isIn_6 (by decide) hf (fun hf => ?_) (fun hf => ?_)
  · refine q_iconst C 0 dX7_isIn_13 (by decide) ?_
    have hz1 := Option.some.inj hf
    clear hf
    subst hz1
    exact hret _ _ dX7_isIn_14 (by decide)
  · refine q_iconst C 1 dX7_isIn_9 (by decide) ?_
    refine q_goto C 14 dX7_isIn_10 (by decide) ?_
    have hz1 := Option.some.inj hf
    clear hf
    subst hz1
    exact hret _ _ dX7_isIn_14 (by decide)

theorem lkJ6_bitCount_0f7a4_1 : Cond.constant RJ6 265 (1431655765) ∈ wsJ6_bitCount_0f7a4 := List.mem_of_getElem? (i := 1) rfl
theorem lkJ6_bitCount_0f7a4_2 : Cond.constant RJ6 266 (858993459) ∈ wsJ6_bitCount_0f7a4 := List.mem_of_getElem? (i := 2) rfl
theorem lkJ6_bitCount_0f7a4_3 : Cond.constant RJ6 267 (252645135) ∈ wsJ6_bitCount_0f7a4 := List.mem_of_getElem? (i := 3) rfl
abbrev rmJ6_bitCount_0f7a4 : Room := { frames := 0, cells := 0, slots := 0, locals := 0 }
theorem hdJ6_bitCount_0f7a4 : yJ6_bitCount_0f7a4.cls ≠ "java/lang/invoke/MethodHandle" ∧ yJ6_bitCount_0f7a4.cls ≠ "java/lang/invoke/VarHandle" ∧ (parseMethodDescriptor yJ6_bitCount_0f7a4.desc).map (fun d => d.parameters.length) = some 1 := by decide +kernel
def fJ6_bitCount_0f7a4  (v0 : Int32) : Option (Int32) :=
  some ((((((((v0 - (((v0.toUInt32 >>> ((1 : Int32).toUInt32 &&& Int32.toUInt32 31)).toInt32) &&& (1431655765 : Int32))) &&& (858993459 : Int32)) + ((((v0 - (((v0.toUInt32 >>> ((1 : Int32).toUInt32 &&& Int32.toUInt32 31)).toInt32) &&& (1431655765 : Int32))).toUInt32 >>> ((2 : Int32).toUInt32 &&& Int32.toUInt32 31)).toInt32) &&& (858993459 : Int32))) + (((((v0 - (((v0.toUInt32 >>> ((1 : Int32).toUInt32 &&& Int32.toUInt32 31)).toInt32) &&& (1431655765 : Int32))) &&& (858993459 : Int32)) + ((((v0 - (((v0.toUInt32 >>> ((1 : Int32).toUInt32 &&& Int32.toUInt32 31)).toInt32) &&& (1431655765 : Int32))).toUInt32 >>> ((2 : Int32).toUInt32 &&& Int32.toUInt32 31)).toInt32) &&& (858993459 : Int32))).toUInt32 >>> ((4 : Int32).toUInt32 &&& Int32.toUInt32 31)).toInt32)) &&& (252645135 : Int32)) + (((((((v0 - (((v0.toUInt32 >>> ((1 : Int32).toUInt32 &&& Int32.toUInt32 31)).toInt32) &&& (1431655765 : Int32))) &&& (858993459 : Int32)) + ((((v0 - (((v0.toUInt32 >>> ((1 : Int32).toUInt32 &&& Int32.toUInt32 31)).toInt32) &&& (1431655765 : Int32))).toUInt32 >>> ((2 : Int32).toUInt32 &&& Int32.toUInt32 31)).toInt32) &&& (858993459 : Int32))) + (((((v0 - (((v0.toUInt32 >>> ((1 : Int32).toUInt32 &&& Int32.toUInt32 31)).toInt32) &&& (1431655765 : Int32))) &&& (858993459 : Int32)) + ((((v0 - (((v0.toUInt32 >>> ((1 : Int32).toUInt32 &&& Int32.toUInt32 31)).toInt32) &&& (1431655765 : Int32))).toUInt32 >>> ((2 : Int32).toUInt32 &&& Int32.toUInt32 31)).toInt32) &&& (858993459 : Int32))).toUInt32 >>> ((4 : Int32).toUInt32 &&& Int32.toUInt32 31)).toInt32)) &&& (252645135 : Int32)).toUInt32 >>> ((8 : Int32).toUInt32 &&& Int32.toUInt32 31)).toInt32)) + ((((((((v0 - (((v0.toUInt32 >>> ((1 : Int32).toUInt32 &&& Int32.toUInt32 31)).toInt32) &&& (1431655765 : Int32))) &&& (858993459 : Int32)) + ((((v0 - (((v0.toUInt32 >>> ((1 : Int32).toUInt32 &&& Int32.toUInt32 31)).toInt32) &&& (1431655765 : Int32))).toUInt32 >>> ((2 : Int32).toUInt32 &&& Int32.toUInt32 31)).toInt32) &&& (858993459 : Int32))) + (((((v0 - (((v0.toUInt32 >>> ((1 : Int32).toUInt32 &&& Int32.toUInt32 31)).toInt32) &&& (1431655765 : Int32))) &&& (858993459 : Int32)) + ((((v0 - (((v0.toUInt32 >>> ((1 : Int32).toUInt32 &&& Int32.toUInt32 31)).toInt32) &&& (1431655765 : Int32))).toUInt32 >>> ((2 : Int32).toUInt32 &&& Int32.toUInt32 31)).toInt32) &&& (858993459 : Int32))).toUInt32 >>> ((4 : Int32).toUInt32 &&& Int32.toUInt32 31)).toInt32)) &&& (252645135 : Int32)) + (((((((v0 - (((v0.toUInt32 >>> ((1 : Int32).toUInt32 &&& Int32.toUInt32 31)).toInt32) &&& (1431655765 : Int32))) &&& (858993459 : Int32)) + ((((v0 - (((v0.toUInt32 >>> ((1 : Int32).toUInt32 &&& Int32.toUInt32 31)).toInt32) &&& (1431655765 : Int32))).toUInt32 >>> ((2 : Int32).toUInt32 &&& Int32.toUInt32 31)).toInt32) &&& (858993459 : Int32))) + (((((v0 - (((v0.toUInt32 >>> ((1 : Int32).toUInt32 &&& Int32.toUInt32 31)).toInt32) &&& (1431655765 : Int32))) &&& (858993459 : Int32)) + ((((v0 - (((v0.toUInt32 >>> ((1 : Int32).toUInt32 &&& Int32.toUInt32 31)).toInt32) &&& (1431655765 : Int32))).toUInt32 >>> ((2 : Int32).toUInt32 &&& Int32.toUInt32 31)).toInt32) &&& (858993459 : Int32))).toUInt32 >>> ((4 : Int32).toUInt32 &&& Int32.toUInt32 31)).toInt32)) &&& (252645135 : Int32)).toUInt32 >>> ((8 : Int32).toUInt32 &&& Int32.toUInt32 31)).toInt32)).toUInt32 >>> ((16 : Int32).toUInt32 &&& Int32.toUInt32 31)).toInt32)) &&& (63 : Int32))
set_option maxRecDepth 100000 in
set_option maxHeartbeats 4000000 in
theorem kJ6_bitCount_0f7a4 (l : Launch) (D : va_G) (cI cJ cZ cN cM : ClassId)   (v0 : Int32) (r : Int32) (hf : fJ6_bitCount_0f7a4 v0 = some r) : MetI l yJ6_bitCount_0f7a4 wsJ6_bitCount_0f7a4 rmJ6_bitCount_0f7a4 D (TYL cI cJ cZ cN cM) [.int v0] ([]) ([]) r := by
  refine MetI.mk (cc := cJ6_bitCount_0f7a4) (maxL := 1) (own := RJ6) (ty := .int) [(0, .int v0)] (by decide +kernel) rfl rfl (Nat.le_of_ble_eq_true rfl) rfl ?_
  intro p e s m args below meth c A Q C hret
  unfold fJ6_bitCount_0f7a4 at hf
  refine q_iload_n C 0 dJ6_bitCount_0f7a4_0 rfl ?_
  refine q_iload_n C 0 dJ6_bitCount_0f7a4_1 rfl ?_
  refine q_iconst C 1 dJ6_bitCount_0f7a4_2 (by decide) ?_
  refine q_iushr C dJ6_bitCount_0f7a4_3 ?_
  refine q_ldcw C dJ6_bitCount_0f7a4_4 lkJ6_bitCount_0f7a4_1 ?_
  refine q_iand C dJ6_bitCount_0f7a4_7 ?_
  refine q_isub C dJ6_bitCount_0f7a4_8 ?_
  refine q_istore_n C [(0, .int (v0 - (((v0.toUInt32 >>> ((1 : Int32).toUInt32 &&& Int32.toUInt32 31)).toInt32) &&& (1431655765 : Int32))))] dJ6_bitCount_0f7a4_9 (by decide) rfl ?_
  refine q_iload_n C 0 dJ6_bitCount_0f7a4_10 rfl ?_
  refine q_ldcw C dJ6_bitCount_0f7a4_11 lkJ6_bitCount_0f7a4_2 ?_
  refine q_iand C dJ6_bitCount_0f7a4_14 ?_
  refine q_iload_n C 0 dJ6_bitCount_0f7a4_15 rfl ?_
  refine q_iconst C 2 dJ6_bitCount_0f7a4_16 (by decide) ?_
  refine q_iushr C dJ6_bitCount_0f7a4_17 ?_
  refine q_ldcw C dJ6_bitCount_0f7a4_18 lkJ6_bitCount_0f7a4_2 ?_
  refine q_iand C dJ6_bitCount_0f7a4_21 ?_
  refine q_iadd C dJ6_bitCount_0f7a4_22 ?_
  refine q_istore_n C [(0, .int (((v0 - (((v0.toUInt32 >>> ((1 : Int32).toUInt32 &&& Int32.toUInt32 31)).toInt32) &&& (1431655765 : Int32))) &&& (858993459 : Int32)) + ((((v0 - (((v0.toUInt32 >>> ((1 : Int32).toUInt32 &&& Int32.toUInt32 31)).toInt32) &&& (1431655765 : Int32))).toUInt32 >>> ((2 : Int32).toUInt32 &&& Int32.toUInt32 31)).toInt32) &&& (858993459 : Int32))))] dJ6_bitCount_0f7a4_23 (by decide) rfl ?_
  refine q_iload_n C 0 dJ6_bitCount_0f7a4_24 rfl ?_
  refine q_iload_n C 0 dJ6_bitCount_0f7a4_25 rfl ?_
  refine q_iconst C 4 dJ6_bitCount_0f7a4_26 (by decide) ?_
  refine q_iushr C dJ6_bitCount_0f7a4_27 ?_
  refine q_iadd C dJ6_bitCount_0f7a4_28 ?_
  refine q_ldcw C dJ6_bitCount_0f7a4_29 lkJ6_bitCount_0f7a4_3 ?_
  refine q_iand C dJ6_bitCount_0f7a4_32 ?_
  refine q_istore_n C [(0, .int (((((v0 - (((v0.toUInt32 >>> ((1 : Int32).toUInt32 &&& Int32.toUInt32 31)).toInt32) &&& (1431655765 : Int32))) &&& (858993459 : Int32)) + ((((v0 - (((v0.toUInt32 >>> ((1 : Int32).toUInt32 &&& Int32.toUInt32 31)).toInt32) &&& (1431655765 : Int32))).toUInt32 >>> ((2 : Int32).toUInt32 &&& Int32.toUInt32 31)).toInt32) &&& (858993459 : Int32))) + (((((v0 - (((v0.toUInt32 >>> ((1 : Int32).toUInt32 &&& Int32.toUInt32 31)).toInt32) &&& (1431655765 : Int32))) &&& (858993459 : Int32)) + ((((v0 - (((v0.toUInt32 >>> ((1 : Int32).toUInt32 &&& Int32.toUInt32 31)).toInt32) &&& (1431655765 : Int32))).toUInt32 >>> ((2 : Int32).toUInt32 &&& Int32.toUInt32 31)).toInt32) &&& (858993459 : Int32))).toUInt32 >>> ((4 : Int32).toUInt32 &&& Int32.toUInt32 31)).toInt32)) &&& (252645135 : Int32)))] dJ6_bitCount_0f7a4_33 (by decide) rfl ?_
  refine q_iload_n C 0 dJ6_bitCount_0f7a4_34 rfl ?_
  refine q_iload_n C 0 dJ6_bitCount_0f7a4_35 rfl ?_
  refine q_bipush C 8 dJ6_bitCount_0f7a4_36 (by decide) ?_
  refine q_iushr C dJ6_bitCount_0f7a4_38 ?_
  refine q_iadd C dJ6_bitCount_0f7a4_39 ?_
  refine q_istore_n C [(0, .int ((((((v0 - (((v0.toUInt32 >>> ((1 : Int32).toUInt32 &&& Int32.toUInt32 31)).toInt32) &&& (1431655765 : Int32))) &&& (858993459 : Int32)) + ((((v0 - (((v0.toUInt32 >>> ((1 : Int32).toUInt32 &&& Int32.toUInt32 31)).toInt32) &&& (1431655765 : Int32))).toUInt32 >>> ((2 : Int32).toUInt32 &&& Int32.toUInt32 31)).toInt32) &&& (858993459 : Int32))) + (((((v0 - (((v0.toUInt32 >>> ((1 : Int32).toUInt32 &&& Int32.toUInt32 31)).toInt32) &&& (1431655765 : Int32))) &&& (858993459 : Int32)) + ((((v0 - (((v0.toUInt32 >>> ((1 : Int32).toUInt32 &&& Int32.toUInt32 31)).toInt32) &&& (1431655765 : Int32))).toUInt32 >>> ((2 : Int32).toUInt32 &&& Int32.toUInt32 31)).toInt32) &&& (858993459 : Int32))).toUInt32 >>> ((4 : Int32).toUInt32 &&& Int32.toUInt32 31)).toInt32)) &&& (252645135 : Int32)) + (((((((v0 - (((v0.toUInt32 >>> ((1 : Int32).toUInt32 &&& Int32.toUInt32 31)).toInt32) &&& (1431655765 : Int32))) &&& (858993459 : Int32)) + ((((v0 - (((v0.toUInt32 >>> ((1 : Int32).toUInt32 &&& Int32.toUInt32 31)).toInt32) &&& (1431655765 : Int32))).toUInt32 >>> ((2 : Int32).toUInt32 &&& Int32.toUInt32 31)).toInt32) &&& (858993459 : Int32))) + (((((v0 - (((v0.toUInt32 >>> ((1 : Int32).toUInt32 &&& Int32.toUInt32 31)).toInt32) &&& (1431655765 : Int32))) &&& (858993459 : Int32)) + ((((v0 - (((v0.toUInt32 >>> ((1 : Int32).toUInt32 &&& Int32.toUInt32 31)).toInt32) &&& (1431655765 : Int32))).toUInt32 >>> ((2 : Int32).toUInt32 &&& Int32.toUInt32 31)).toInt32) &&& (858993459 : Int32))).toUInt32 >>> ((4 : Int32).toUInt32 &&& Int32.toUInt32 31)).toInt32)) &&& (252645135 : Int32)).toUInt32 >>> ((8 : Int32).toUInt32 &&& Int32.toUInt32 31)).toInt32)))] dJ6_bitCount_0f7a4_40 (by decide) rfl ?_
  refine q_iload_n C 0 dJ6_bitCount_0f7a4_41 rfl ?_
  refine q_iload_n C 0 dJ6_bitCount_0f7a4_42 rfl ?_
  refine q_bipush C 16 dJ6_bitCount_0f7a4_43 (by decide) ?_
  refine q_iushr C dJ6_bitCount_0f7a4_45 ?_
  refine q_iadd C dJ6_bitCount_0f7a4_46 ?_
  refine q_istore_n C [(0, .int (((((((v0 - (((v0.toUInt32 >>> ((1 : Int32).toUInt32 &&& Int32.toUInt32 31)).toInt32) &&& (1431655765 : Int32))) &&& (858993459 : Int32)) + ((((v0 - (((v0.toUInt32 >>> ((1 : Int32).toUInt32 &&& Int32.toUInt32 31)).toInt32) &&& (1431655765 : Int32))).toUInt32 >>> ((2 : Int32).toUInt32 &&& Int32.toUInt32 31)).toInt32) &&& (858993459 : Int32))) + (((((v0 - (((v0.toUInt32 >>> ((1 : Int32).toUInt32 &&& Int32.toUInt32 31)).toInt32) &&& (1431655765 : Int32))) &&& (858993459 : Int32)) + ((((v0 - (((v0.toUInt32 >>> ((1 : Int32).toUInt32 &&& Int32.toUInt32 31)).toInt32) &&& (1431655765 : Int32))).toUInt32 >>> ((2 : Int32).toUInt32 &&& Int32.toUInt32 31)).toInt32) &&& (858993459 : Int32))).toUInt32 >>> ((4 : Int32).toUInt32 &&& Int32.toUInt32 31)).toInt32)) &&& (252645135 : Int32)) + (((((((v0 - (((v0.toUInt32 >>> ((1 : Int32).toUInt32 &&& Int32.toUInt32 31)).toInt32) &&& (1431655765 : Int32))) &&& (858993459 : Int32)) + ((((v0 - (((v0.toUInt32 >>> ((1 : Int32).toUInt32 &&& Int32.toUInt32 31)).toInt32) &&& (1431655765 : Int32))).toUInt32 >>> ((2 : Int32).toUInt32 &&& Int32.toUInt32 31)).toInt32) &&& (858993459 : Int32))) + (((((v0 - (((v0.toUInt32 >>> ((1 : Int32).toUInt32 &&& Int32.toUInt32 31)).toInt32) &&& (1431655765 : Int32))) &&& (858993459 : Int32)) + ((((v0 - (((v0.toUInt32 >>> ((1 : Int32).toUInt32 &&& Int32.toUInt32 31)).toInt32) &&& (1431655765 : Int32))).toUInt32 >>> ((2 : Int32).toUInt32 &&& Int32.toUInt32 31)).toInt32) &&& (858993459 : Int32))).toUInt32 >>> ((4 : Int32).toUInt32 &&& Int32.toUInt32 31)).toInt32)) &&& (252645135 : Int32)).toUInt32 >>> ((8 : Int32).toUInt32 &&& Int32.toUInt32 31)).toInt32)) + ((((((((v0 - (((v0.toUInt32 >>> ((1 : Int32).toUInt32 &&& Int32.toUInt32 31)).toInt32) &&& (1431655765 : Int32))) &&& (858993459 : Int32)) + ((((v0 - (((v0.toUInt32 >>> ((1 : Int32).toUInt32 &&& Int32.toUInt32 31)).toInt32) &&& (1431655765 : Int32))).toUInt32 >>> ((2 : Int32).toUInt32 &&& Int32.toUInt32 31)).toInt32) &&& (858993459 : Int32))) + (((((v0 - (((v0.toUInt32 >>> ((1 : Int32).toUInt32 &&& Int32.toUInt32 31)).toInt32) &&& (1431655765 : Int32))) &&& (858993459 : Int32)) + ((((v0 - (((v0.toUInt32 >>> ((1 : Int32).toUInt32 &&& Int32.toUInt32 31)).toInt32) &&& (1431655765 : Int32))).toUInt32 >>> ((2 : Int32).toUInt32 &&& Int32.toUInt32 31)).toInt32) &&& (858993459 : Int32))).toUInt32 >>> ((4 : Int32).toUInt32 &&& Int32.toUInt32 31)).toInt32)) &&& (252645135 : Int32)) + (((((((v0 - (((v0.toUInt32 >>> ((1 : Int32).toUInt32 &&& Int32.toUInt32 31)).toInt32) &&& (1431655765 : Int32))) &&& (858993459 : Int32)) + ((((v0 - (((v0.toUInt32 >>> ((1 : Int32).toUInt32 &&& Int32.toUInt32 31)).toInt32) &&& (1431655765 : Int32))).toUInt32 >>> ((2 : Int32).toUInt32 &&& Int32.toUInt32 31)).toInt32) &&& (858993459 : Int32))) + (((((v0 - (((v0.toUInt32 >>> ((1 : Int32).toUInt32 &&& Int32.toUInt32 31)).toInt32) &&& (1431655765 : Int32))) &&& (858993459 : Int32)) + ((((v0 - (((v0.toUInt32 >>> ((1 : Int32).toUInt32 &&& Int32.toUInt32 31)).toInt32) &&& (1431655765 : Int32))).toUInt32 >>> ((2 : Int32).toUInt32 &&& Int32.toUInt32 31)).toInt32) &&& (858993459 : Int32))).toUInt32 >>> ((4 : Int32).toUInt32 &&& Int32.toUInt32 31)).toInt32)) &&& (252645135 : Int32)).toUInt32 >>> ((8 : Int32).toUInt32 &&& Int32.toUInt32 31)).toInt32)).toUInt32 >>> ((16 : Int32).toUInt32 &&& Int32.toUInt32 31)).toInt32)))] dJ6_bitCount_0f7a4_47 (by decide) rfl ?_
  refine q_iload_n C 0 dJ6_bitCount_0f7a4_48 rfl ?_
  refine q_bipush C 63 dJ6_bitCount_0f7a4_49 (by decide) ?_
  refine q_iand C dJ6_bitCount_0f7a4_51 ?_
  have hz1 := Option.some.inj hf
  clear hf
  subst hz1
  exact hret _ _ dJ6_bitCount_0f7a4_52 rfl

abbrev rmJ7_fill_53178 : Room := { frames := 0, cells := 0, slots := 0, locals := 0 }
theorem hdJ7_fill_53178 : yJ7_fill_53178.cls ≠ "java/lang/invoke/MethodHandle" ∧ yJ7_fill_53178.cls ≠ "java/lang/invoke/VarHandle" ∧ (parseMethodDescriptor yJ7_fill_53178.desc).map (fun d => d.parameters.length) = some 2 := by decide +kernel
def fJ7_fill_53178_L5 (v1 : Int32) (v3 : Int32) : Nat → Int32 → (Nat → Int32) → Option ((Nat → Int32))
  | 0, _, _ => none
  | n + 1, v2, f =>
  if v3 ≤ v2 then (
  some f) else (
  (wrI 9 f v2 v1).bind fun f_13 =>
  fJ7_fill_53178_L5 v1 v3 n (v2 + 1) f_13)
def fJ7_fill_53178 (f : (Nat → Int32)) (v1 : Int32) : Option ((Nat → Int32)) :=
  (fJ7_fill_53178_L5 v1 (9 : Int32) 300 (0 : Int32) f).bind fun f_5 =>
  some f_5
set_option maxRecDepth 100000 in
set_option maxHeartbeats 4000000 in
theorem wJ7_fill_53178_L5 {p : Program} {l : Launch} {e : Env} {s : State} {m : MethodId} {args : Array Value} {below : List Frame} {meth : Method} {c : Code} {Q : State → Prop} {D : va_G} {A : Nat → Prop} {cI cJ cZ cN cM : ClassId} (C : Cx p s m args c cJ7_fill_53178 4 RJ7 wsJ7_fill_53178 D (TYL cI cJ cZ cN cM) A) (ia : Nat → Nat)  (v1 : Int32) (v3 : Int32) (f_o : (Nat → Int32)) (kk : WW p l e rmJ7_fill_53178 s m args below meth c Q D A 4 0 0 (iaW cI cJ cZ cN cM ia f_o) [] 20 []) : ∀ (n : Nat) (v2 : Int32) (f : (Nat → Int32)), fJ7_fill_53178_L5 v1 v3 n v2 f = some f_o → WW p l e rmJ7_fill_53178 s m args below meth c Q D A 4 0 0 (iaW cI cJ cZ cN cM ia f) [(0, .ref (ia 0)), (1, .int v1), (2, .int v2), (3, .int v3)] 5 [] := by
  intro n
  induction n with
  | zero =>
    intro v2 f hf
    rw [fJ7_fill_53178_L5] at hf
    cases hf
  | succ n ih =>
    intro v2 f hf
    rw [fJ7_fill_53178_L5] at hf
    refine q_iload_n C 2 dJ7_fill_53178_5 rfl ?_
    refine q_iload_n C 3 dJ7_fill_53178_6 rfl ?_
    refine q_icmp_ge C 20 dJ7_fill_53178_7 (by decide) hf (fun hf => ?_) (fun hf => ?_)
    · refine q_lv [] [] rfl ?_
      have hz1 := Option.some.inj hf
      clear hf
      subst hz1
      exact kk
    · refine q_aload_n C 0 dJ7_fill_53178_10 rfl ?_
      refine q_iload_n C 2 dJ7_fill_53178_11 rfl ?_
      refine q_iload_n C 1 dJ7_fill_53178_12 rfl ?_
      refine q_iast C 0 0 (fun f_13 => iaW cI cJ cZ cN cM ia f_13) dJ7_fill_53178_13 rfl rfl (fun _ => rfl) hf (fun f_13 hf => ?_)
      refine q_iinc C (v2 + 1) 2 [(2, .int (v2 + 1)), (0, .ref (ia 0)), (1, .int v1), (3, .int v3)] dJ7_fill_53178_14 rfl rfl (by decide) rfl ?_
      refine q_goto C 5 dJ7_fill_53178_17 (by decide) ?_
      refine q_lv [(0, .ref (ia 0)), (1, .int v1), (2, .int (v2 + 1)), (3, .int v3)] [1, 2, 0, 3] rfl ?_
      exact ih _ _ hf
set_option maxRecDepth 100000 in
set_option maxHeartbeats 4000000 in
theorem kJ7_fill_53178 (l : Launch) (D : va_G) (cI cJ cZ cN cM : ClassId) (ia : Nat → Nat) (f : (Nat → Int32)) (v1 : Int32) (f_o : (Nat → Int32)) (hf : fJ7_fill_53178 f v1 = some f_o) : MetV l yJ7_fill_53178 wsJ7_fill_53178 rmJ7_fill_53178 D (TYL cI cJ cZ cN cM) [.ref (ia 0), .int v1] (iaW cI cJ cZ cN cM ia f) (iaW cI cJ cZ cN cM ia f_o) := by
  refine MetV.mk (cc := cJ7_fill_53178) (maxL := 4) (own := RJ7) [(0, .ref (ia 0)), (1, .int v1)] (by decide +kernel) rfl rfl (Nat.le_of_ble_eq_true rfl) rfl ?_
  intro p e s m args below meth c A Q C hret
  unfold fJ7_fill_53178 at hf
  refine q_iconst C 0 dJ7_fill_53178_0 (by decide) ?_
  refine q_istore_n C [(2, .int (0 : Int32)), (0, .ref (ia 0)), (1, .int v1)] dJ7_fill_53178_1 (by decide) rfl ?_
  refine q_aload_n C 1 dJ7_fill_53178_2 rfl ?_
  refine q_alen C 9 0 0 dJ7_fill_53178_3 rfl rfl (show Int32.ofNat 9 = 9 by decide) ?_
  refine q_istore_n C [(3, .int (9 : Int32)), (2, .int (0 : Int32)), (0, .ref (ia 0)), (1, .int v1)] dJ7_fill_53178_4 (by decide) rfl ?_
  obtain ⟨f_5, hL, hf⟩ := bd_e hf
  refine q_lv [(0, .ref (ia 0)), (1, .int v1), (2, .int (0 : Int32)), (3, .int (9 : Int32))] [2, 3, 1, 0] rfl ?_
  refine wJ7_fill_53178_L5 C ia  v1 (9 : Int32) f_5 ?_ 300 _ _ hL
  have hz1 := Option.some.inj hf
  clear hf
  subst hz1
  exact hret _ _ dJ7_fill_53178_20

abbrev rmJ7_fill_d0a16 : Room := { frames := 0, cells := 0, slots := 0, locals := 0 }
theorem hdJ7_fill_d0a16 : yJ7_fill_d0a16.cls ≠ "java/lang/invoke/MethodHandle" ∧ yJ7_fill_d0a16.cls ≠ "java/lang/invoke/VarHandle" ∧ (parseMethodDescriptor yJ7_fill_d0a16.desc).map (fun d => d.parameters.length) = some 2 := by decide +kernel
def fJ7_fill_d0a16_L6 (v1 : Int64) (v4 : Int32) : Nat → Int32 → (Nat → Int64) → Option ((Nat → Int64))
  | 0, _, _ => none
  | n + 1, v3, g =>
  if v4 ≤ v3 then (
  some g) else (
  (wrL 9 g v3 v1).bind fun g_15 =>
  fJ7_fill_d0a16_L6 v1 v4 n (v3 + 1) g_15)
def fJ7_fill_d0a16 (g : (Nat → Int64)) (v1 : Int64) : Option ((Nat → Int64)) :=
  (fJ7_fill_d0a16_L6 v1 (9 : Int32) 300 (0 : Int32) g).bind fun g_6 =>
  some g_6
set_option maxRecDepth 100000 in
set_option maxHeartbeats 4000000 in
theorem wJ7_fill_d0a16_L6 {p : Program} {l : Launch} {e : Env} {s : State} {m : MethodId} {args : Array Value} {below : List Frame} {meth : Method} {c : Code} {Q : State → Prop} {D : va_G} {A : Nat → Prop} {cI cJ cZ cN cM : ClassId} (C : Cx p s m args c cJ7_fill_d0a16 5 RJ7 wsJ7_fill_d0a16 D (TYL cI cJ cZ cN cM) A) (ja : Nat → Nat)  (v1 : Int64) (v4 : Int32) (g_o : (Nat → Int64)) (kk : WW p l e rmJ7_fill_d0a16 s m args below meth c Q D A 5 0 0 (jaW cI cJ cZ cN cM ja g_o) [] 22 []) : ∀ (n : Nat) (v3 : Int32) (g : (Nat → Int64)), fJ7_fill_d0a16_L6 v1 v4 n v3 g = some g_o → WW p l e rmJ7_fill_d0a16 s m args below meth c Q D A 5 0 0 (jaW cI cJ cZ cN cM ja g) [(0, .ref (ja 0)), (1, .long v1), (3, .int v3), (4, .int v4)] 6 [] := by
  intro n
  induction n with
  | zero =>
    intro v3 g hf
    rw [fJ7_fill_d0a16_L6] at hf
    cases hf
  | succ n ih =>
    intro v3 g hf
    rw [fJ7_fill_d0a16_L6] at hf
    refine q_iload_n C 2 dJ7_fill_d0a16_6 rfl ?_
    refine q_iload C 3 dJ7_fill_d0a16_7 rfl ?_
    refine q_icmp_ge C 22 dJ7_fill_d0a16_9 (by decide) hf (fun hf => ?_) (fun hf => ?_)
    · refine q_lv [] [] rfl ?_
      have hz1 := Option.some.inj hf
      clear hf
      subst hz1
      exact kk
    · refine q_aload_n C 0 dJ7_fill_d0a16_12 rfl ?_
      refine q_iload_n C 2 dJ7_fill_d0a16_13 rfl ?_
      refine q_lload_n C 1 dJ7_fill_d0a16_14 rfl ?_
      refine q_last C 0 1 (fun g_15 => jaW cI cJ cZ cN cM ja g_15) dJ7_fill_d0a16_15 rfl rfl (fun _ => rfl) hf (fun g_15 hf => ?_)
      refine q_iinc C (v3 + 1) 2 [(3, .int (v3 + 1)), (0, .ref (ja 0)), (1, .long v1), (4, .int v4)] dJ7_fill_d0a16_16 rfl rfl (by decide) rfl ?_
      refine q_goto C 6 dJ7_fill_d0a16_19 (by decide) ?_
      refine q_lv [(0, .ref (ja 0)), (1, .long v1), (3, .int (v3 + 1)), (4, .int v4)] [1, 2, 0, 3] rfl ?_
      exact ih _ _ hf
set_option maxRecDepth 100000 in
set_option maxHeartbeats 4000000 in
theorem kJ7_fill_d0a16 (l : Launch) (D : va_G) (cI cJ cZ cN cM : ClassId) (ja : Nat → Nat) (g : (Nat → Int64)) (v1 : Int64) (g_o : (Nat → Int64)) (hf : fJ7_fill_d0a16 g v1 = some g_o) : MetV l yJ7_fill_d0a16 wsJ7_fill_d0a16 rmJ7_fill_d0a16 D (TYL cI cJ cZ cN cM) [.ref (ja 0), .long v1] (jaW cI cJ cZ cN cM ja g) (jaW cI cJ cZ cN cM ja g_o) := by
  refine MetV.mk (cc := cJ7_fill_d0a16) (maxL := 5) (own := RJ7) [(0, .ref (ja 0)), (1, .long v1)] (by decide +kernel) rfl rfl (Nat.le_of_ble_eq_true rfl) rfl ?_
  intro p e s m args below meth c A Q C hret
  unfold fJ7_fill_d0a16 at hf
  refine q_iconst C 0 dJ7_fill_d0a16_0 (by decide) ?_
  refine q_istore_n C [(3, .int (0 : Int32)), (0, .ref (ja 0)), (1, .long v1)] dJ7_fill_d0a16_1 (by decide) rfl ?_
  refine q_aload_n C 1 dJ7_fill_d0a16_2 rfl ?_
  refine q_alen C 9 0 1 dJ7_fill_d0a16_3 rfl rfl (show Int32.ofNat 9 = 9 by decide) ?_
  refine q_istore C [(4, .int (9 : Int32)), (3, .int (0 : Int32)), (0, .ref (ja 0)), (1, .long v1)] dJ7_fill_d0a16_4 (by decide) rfl ?_
  obtain ⟨g_6, hL, hf⟩ := bd_e hf
  refine q_lv [(0, .ref (ja 0)), (1, .long v1), (3, .int (0 : Int32)), (4, .int (9 : Int32))] [2, 3, 1, 0] rfl ?_
  refine wJ7_fill_d0a16_L6 C ja  v1 (9 : Int32) g_6 ?_ 300 _ _ hL
  have hz1 := Option.some.inj hf
  clear hf
  subst hz1
  exact hret _ _ dJ7_fill_d0a16_22

abbrev rmX7_pairsIn : Room := { frames := 1, cells := 0, slots := 0, locals := 20 }
theorem hdX7_pairsIn : yX7_pairsIn.cls ≠ "java/lang/invoke/MethodHandle" ∧ yX7_pairsIn.cls ≠ "java/lang/invoke/VarHandle" ∧ (parseMethodDescriptor yX7_pairsIn.desc).map (fun d => d.parameters.length) = some 1 := by decide +kernel
def fX7_pairsIn_L10 (f : (Nat → Int32)) (v3 : Int32) : Nat → Int32 → Int32 → Option (Int32)
  | 0, _, _ => none
  | n + 1, v1, v4 =>
  if v3 ≤ v4 then (
  some v1) else (
  (rdI 9 f v4).bind fun x19 =>
  (fJ6_bitCount_0f7a4 x19).bind fun x25 =>
  fX7_pairsIn_L10 f v3 n (v1 + x25) (v4 + 1))
def fX7_pairsIn (f : (Nat → Int32))  : Option (Int32) :=
  (fX7_pairsIn_L10 f (9 : Int32) 300 (0 : Int32) (0 : Int32)).bind fun v1_10 =>
  some (v1_10 / (2 : Int32))
set_option maxRecDepth 100000 in
set_option maxHeartbeats 4000000 in
theorem wX7_pairsIn_L10 {p : Program} {l : Launch} {e : Env} {s : State} {m : MethodId} {args : Array Value} {below : List Frame} {meth : Method} {c : Code} {Q : State → Prop} {D : va_G} {A : Nat → Prop} {cI cJ cZ cN cM : ClassId} (C : Cx p s m args c cX7_pairsIn 6 RX7 wsX7_pairsIn D (TYL cI cJ cZ cN cM) A) (ia : Nat → Nat) (f : (Nat → Int32)) (v3 : Int32) (o1 : Int32) (kk : WW p l e rmX7_pairsIn s m args below meth c Q D A 6 0 0 (iaW cI cJ cZ cN cM ia f) [(1, .int o1)] 36 []) : ∀ (n : Nat) (v1 : Int32) (v4 : Int32), fX7_pairsIn_L10 f v3 n v1 v4 = some o1 → WW p l e rmX7_pairsIn s m args below meth c Q D A 6 0 0 (iaW cI cJ cZ cN cM ia f) [(1, .int v1), (2, .ref (ia 0)), (3, .int v3), (4, .int v4)] 10 [] := by
  intro n
  induction n with
  | zero =>
    intro v1 v4 hf
    rw [fX7_pairsIn_L10] at hf
    cases hf
  | succ n ih =>
    intro v1 v4 hf
    rw [fX7_pairsIn_L10] at hf
    refine q_iload C 3 dX7_pairsIn_10 rfl ?_
    refine q_iload_n C 2 dX7_pairsIn_12 rfl ?_
    refine q_icmp_ge C 36 dX7_pairsIn_13 (by decide) hf (fun hf => ?_) (fun hf => ?_)
    · refine q_lv [(1, .int v1)] [0] rfl ?_
      have hz1 := Option.some.inj hf
      clear hf
      subst hz1
      exact kk
    · refine q_aload_n C 1 dX7_pairsIn_16 rfl ?_
      refine q_iload C 3 dX7_pairsIn_17 rfl ?_
      refine q_iald C 0 0 dX7_pairsIn_19 rfl rfl hf (fun x19 hf => ?_)
      refine q_istore C [(5, .int x19), (1, .int v1), (2, .ref (ia 0)), (3, .int v3), (4, .int v4)] dX7_pairsIn_20 (by decide) rfl ?_
      refine q_iload_n C 1 dX7_pairsIn_22 rfl ?_
      refine q_iload C 0 dX7_pairsIn_23 rfl ?_
      obtain ⟨x25, hM, hf⟩ := bd_e hf
      refine q_callSI C (iaW cI cJ cZ cN cM ia f) (kJ6_bitCount_0f7a4 l D cI cJ cZ cN cM   x19 x25 hM) (va_cwS 1 C.1.2.2.2.2 gX7_pairsIn_J6_bitCount_0f7a4 rfl rfl rfl hdJ6_bitCount_0f7a4 ⟨Nat.le_of_ble_eq_true rfl, Nat.le_of_ble_eq_true rfl⟩) FrX.none rfl rfl (Nat.le_of_ble_eq_true rfl) dX7_pairsIn_25 ⟨Nat.zero_le _, Nat.zero_le _⟩ ?_
      refine q_iadd C dX7_pairsIn_28 ?_
      refine q_istore_n C [(1, .int (v1 + x25)), (5, .int x19), (2, .ref (ia 0)), (3, .int v3), (4, .int v4)] dX7_pairsIn_29 (by decide) rfl ?_
      refine q_iinc C (v4 + 1) 4 [(4, .int (v4 + 1)), (1, .int (v1 + x25)), (5, .int x19), (2, .ref (ia 0)), (3, .int v3)] dX7_pairsIn_30 rfl rfl (by decide) rfl ?_
      refine q_goto C 10 dX7_pairsIn_33 (by decide) ?_
      refine q_lv [(1, .int (v1 + x25)), (2, .ref (ia 0)), (3, .int v3), (4, .int (v4 + 1))] [1, 3, 4, 0] rfl ?_
      exact ih _ _ hf
set_option maxRecDepth 100000 in
set_option maxHeartbeats 4000000 in
theorem kX7_pairsIn (l : Launch) (D : va_G) (cI cJ cZ cN cM : ClassId) (ia : Nat → Nat) (f : (Nat → Int32))  (r : Int32) (hf : fX7_pairsIn f = some r) : MetI l yX7_pairsIn wsX7_pairsIn rmX7_pairsIn D (TYL cI cJ cZ cN cM) [.ref (ia 0)] (iaW cI cJ cZ cN cM ia f) (iaW cI cJ cZ cN cM ia f) r := by
  refine MetI.mk (cc := cX7_pairsIn) (maxL := 6) (own := RX7) (ty := .int) [(0, .ref (ia 0))] (by decide +kernel) rfl rfl (Nat.le_of_ble_eq_true rfl) rfl ?_
  intro p e s m args below meth c A Q C hret
  unfold fX7_pairsIn at hf
  refine q_iconst C 0 dX7_pairsIn_0 (by decide) ?_
  refine q_istore_n C [(1, .int (0 : Int32)), (0, .ref (ia 0))] dX7_pairsIn_1 (by decide) rfl ?_
  refine q_aload_n C 1 dX7_pairsIn_2 rfl ?_
  refine q_astore_n C [(2, .ref (ia 0)), (1, .int (0 : Int32)), (0, .ref (ia 0))] dX7_pairsIn_3 (by decide) rfl ?_
  refine q_aload_n C 0 dX7_pairsIn_4 rfl ?_
  refine q_alen C 9 0 0 dX7_pairsIn_5 rfl rfl (show Int32.ofNat 9 = 9 by decide) ?_
  refine q_istore_n C [(3, .int (9 : Int32)), (2, .ref (ia 0)), (1, .int (0 : Int32)), (0, .ref (ia 0))] dX7_pairsIn_6 (by decide) rfl ?_
  refine q_iconst C 0 dX7_pairsIn_7 (by decide) ?_
  refine q_istore C [(4, .int (0 : Int32)), (3, .int (9 : Int32)), (2, .ref (ia 0)), (1, .int (0 : Int32)), (0, .ref (ia 0))] dX7_pairsIn_8 (by decide) rfl ?_
  obtain ⟨v1_10, hL, hf⟩ := bd_e hf
  refine q_lv [(1, .int (0 : Int32)), (2, .ref (ia 0)), (3, .int (9 : Int32)), (4, .int (0 : Int32))] [3, 2, 1, 0] rfl ?_
  refine wX7_pairsIn_L10 C ia f (9 : Int32) v1_10 ?_ 300 _ _ hL
  refine q_iload_n C 0 dX7_pairsIn_36 rfl ?_
  refine q_iconst C 2 dX7_pairsIn_37 (by decide) ?_
  refine q_idivC C dX7_pairsIn_38 (by decide) ?_
  have hz1 := Option.some.inj hf
  clear hf
  subst hz1
  exact hret _ _ dX7_pairsIn_39 rfl

theorem lkX7_markOf_1 : Cond.constantLong RX7 239 (2) ∈ wsX7_markOf := List.mem_of_getElem? (i := 1) rfl
theorem lkX7_markOf_2 : Cond.constantLong RX7 241 (40503) ∈ wsX7_markOf := List.mem_of_getElem? (i := 2) rfl
theorem lkX7_markOf_3 : Cond.constantLong RX7 243 (65536) ∈ wsX7_markOf := List.mem_of_getElem? (i := 3) rfl
theorem lkX7_markOf_4 : Cond.constantLong RX7 245 (64) ∈ wsX7_markOf := List.mem_of_getElem? (i := 4) rfl
abbrev rmX7_markOf : Room := { frames := 0, cells := 0, slots := 0, locals := 0 }
theorem hdX7_markOf : yX7_markOf.cls ≠ "java/lang/invoke/MethodHandle" ∧ yX7_markOf.cls ≠ "java/lang/invoke/VarHandle" ∧ (parseMethodDescriptor yX7_markOf.desc).map (fun d => d.parameters.length) = some 2 := by decide +kernel
def fX7_markOf  (v0 : Int32) (v1 : Int32) : Option (Int32) :=
  some ((((((v0.toInt64 + (1 : Int64)) * (((2 : Int64) * v1.toInt64) + (1 : Int64))) * (40503 : Int64)) - (((v0.toInt64 + (1 : Int64)) * (((2 : Int64) * v1.toInt64) + (1 : Int64))) * (40503 : Int64)) / (65536 : Int64) * (65536 : Int64)) / (64 : Int64)).toInt32)
set_option maxRecDepth 100000 in
set_option maxHeartbeats 4000000 in
theorem kX7_markOf (l : Launch) (D : va_G) (cI cJ cZ cN cM : ClassId)   (v0 : Int32) (v1 : Int32) (r : Int32) (hf : fX7_markOf v0 v1 = some r) : MetI l yX7_markOf wsX7_markOf rmX7_markOf D (TYL cI cJ cZ cN cM) [.int v0, .int v1] ([]) ([]) r := by
  refine MetI.mk (cc := cX7_markOf) (maxL := 4) (own := RX7) (ty := .int) [(0, .int v0), (1, .int v1)] (by decide +kernel) rfl rfl (Nat.le_of_ble_eq_true rfl) rfl ?_
  intro p e s m args below meth c A Q C hret
  unfold fX7_markOf at hf
  refine q_iload_n C 0 dX7_markOf_0 rfl ?_
  refine q_i2l C dX7_markOf_1 ?_
  refine q_lconst C 1 dX7_markOf_2 (by decide) ?_
  refine q_ladd C dX7_markOf_3 ?_
  refine q_ldc2 C dX7_markOf_4 lkX7_markOf_1 ?_
  refine q_iload_n C 1 dX7_markOf_7 rfl ?_
  refine q_i2l C dX7_markOf_8 ?_
  refine q_lmul C dX7_markOf_9 ?_
  refine q_lconst C 1 dX7_markOf_10 (by decide) ?_
  refine q_ladd C dX7_markOf_11 ?_
  refine q_lmul C dX7_markOf_12 ?_
  refine q_ldc2 C dX7_markOf_13 lkX7_markOf_2 ?_
  refine q_lmul C dX7_markOf_16 ?_
  refine q_lstore_n C [(2, .long (((v0.toInt64 + (1 : Int64)) * (((2 : Int64) * v1.toInt64) + (1 : Int64))) * (40503 : Int64))), (0, .int v0), (1, .int v1)] dX7_markOf_17 (by decide) rfl ?_
  refine q_lload_n C 0 dX7_markOf_18 rfl ?_
  refine q_ldc2 C dX7_markOf_19 lkX7_markOf_3 ?_
  refine q_lremC C dX7_markOf_22 (by decide) ?_
  refine q_ldc2 C dX7_markOf_23 lkX7_markOf_4 ?_
  refine q_ldivC C dX7_markOf_26 (by decide) ?_
  refine q_l2i C dX7_markOf_27 ?_
  have hz1 := Option.some.inj hf
  clear hf
  subst hz1
  exact hret _ _ dX7_markOf_28 rfl

abbrev rmX7_rankOf : Room := { frames := 0, cells := 0, slots := 0, locals := 0 }
theorem hdX7_rankOf : yX7_rankOf.cls ≠ "java/lang/invoke/MethodHandle" ∧ yX7_rankOf.cls ≠ "java/lang/invoke/VarHandle" ∧ (parseMethodDescriptor yX7_rankOf.desc).map (fun d => d.parameters.length) = some 1 := by decide +kernel
def fX7_rankOf_L4  : Nat → Int32 → Int32 → Option (Int32)
  | 0, _, _ => none
  | n + 1, v1, v2 =>
  if (7 : Int32) ≤ v1 then (
  some v1) else (
  if (v2 - v2 / (2 : Int32) * (2 : Int32)) = 0 then (
  fX7_rankOf_L4 n (v1 + 1) (v2 / (2 : Int32))) else (
  some v1))
def fX7_rankOf  (v0 : Int32) : Option (Int32) :=
  (fX7_rankOf_L4  300 (0 : Int32) v0).bind fun v1_4 =>
  some v1_4
set_option maxRecDepth 100000 in
set_option maxHeartbeats 4000000 in
theorem wX7_rankOf_L4 {p : Program} {l : Launch} {e : Env} {s : State} {m : MethodId} {args : Array Value} {below : List Frame} {meth : Method} {c : Code} {Q : State → Prop} {D : va_G} {A : Nat → Prop} {cI cJ cZ cN cM : ClassId} (C : Cx p s m args c cX7_rankOf 3 RX7 wsX7_rankOf D (TYL cI cJ cZ cN cM) A)    (o1 : Int32) (kk : WW p l e rmX7_rankOf s m args below meth c Q D A 3 0 0 ([]) [(1, .int o1)] 26 []) : ∀ (n : Nat) (v1 : Int32) (v2 : Int32), fX7_rankOf_L4  n v1 v2 = some o1 → WW p l e rmX7_rankOf s m args below meth c Q D A 3 0 0 ([]) [(1, .int v1), (2, .int v2)] 4 [] := by
  intro n
  induction n with
  | zero =>
    intro v1 v2 hf
    rw [fX7_rankOf_L4] at hf
    cases hf
  | succ n ih =>
    intro v1 v2 hf
    rw [fX7_rankOf_L4] at hf
    refine q_iload_n C 0 dX7_rankOf_4 rfl ?_
    refine q_bipush C 7 dX7_rankOf_5 (by decide) ?_
    refine q_icmp_ge C 26 dX7_rankOf_7 (by decide) hf (fun hf => ?_) (fun hf => ?_)
    · refine q_lv [(1, .int v1)] [0] rfl ?_
      have hz1 := Option.some.inj hf
      clear hf
      subst hz1
      exact kk
    · refine q_iload_n C 1 dX7_rankOf_10 rfl ?_
      refine q_iconst C 2 dX7_rankOf_11 (by decide) ?_
      refine q_iremC C dX7_rankOf_12 (by decide) ?_
      refine q_if_ne C 26 dX7_rankOf_13 (by decide) hf (fun hf => ?_) (fun hf => ?_)
      · refine q_lv [(1, .int v1)] [0] rfl ?_
        have hz1 := Option.some.inj hf
        clear hf
        subst hz1
        exact kk
      · refine q_iinc C (v1 + 1) 0 [(1, .int (v1 + 1)), (2, .int v2)] dX7_rankOf_16 rfl rfl (by decide) rfl ?_
        refine q_iload_n C 1 dX7_rankOf_19 rfl ?_
        refine q_iconst C 2 dX7_rankOf_20 (by decide) ?_
        refine q_idivC C dX7_rankOf_21 (by decide) ?_
        refine q_istore_n C [(2, .int (v2 / (2 : Int32))), (1, .int (v1 + 1))] dX7_rankOf_22 (by decide) rfl ?_
        refine q_goto C 4 dX7_rankOf_23 (by decide) ?_
        refine q_lv [(1, .int (v1 + 1)), (2, .int (v2 / (2 : Int32)))] [1, 0] rfl ?_
        exact ih _ _ hf
set_option maxRecDepth 100000 in
set_option maxHeartbeats 4000000 in
theorem kX7_rankOf (l : Launch) (D : va_G) (cI cJ cZ cN cM : ClassId)   (v0 : Int32) (r : Int32) (hf : fX7_rankOf v0 = some r) : MetI l yX7_rankOf wsX7_rankOf rmX7_rankOf D (TYL cI cJ cZ cN cM) [.int v0] ([]) ([]) r := by
  refine MetI.mk (cc := cX7_rankOf) (maxL := 3) (own := RX7) (ty := .int) [(0, .int v0)] (by decide +kernel) rfl rfl (Nat.le_of_ble_eq_true rfl) rfl ?_
  intro p e s m args below meth c A Q C hret
  unfold fX7_rankOf at hf
  refine q_iconst C 0 dX7_rankOf_0 (by decide) ?_
  refine q_istore_n C [(1, .int (0 : Int32)), (0, .int v0)] dX7_rankOf_1 (by decide) rfl ?_
  refine q_iload_n C 1 dX7_rankOf_2 rfl ?_
  refine q_istore_n C [(2, .int v0), (1, .int (0 : Int32)), (0, .int v0)] dX7_rankOf_3 (by decide) rfl ?_
  obtain ⟨v1_4, hL, hf⟩ := bd_e hf
  refine q_lv [(1, .int (0 : Int32)), (2, .int v0)] [1, 0] rfl ?_
  refine wX7_rankOf_L4 C    v1_4 ?_ 300 _ _ hL
  refine q_iload_n C 0 dX7_rankOf_26 rfl ?_
  have hz1 := Option.some.inj hf
  clear hf
  subst hz1
  exact hret _ _ dX7_rankOf_27 rfl

abbrev rmX7_waysOfRank : Room := { frames := 0, cells := 0, slots := 0, locals := 0 }
theorem hdX7_waysOfRank : yX7_waysOfRank.cls ≠ "java/lang/invoke/MethodHandle" ∧ yX7_waysOfRank.cls ≠ "java/lang/invoke/VarHandle" ∧ (parseMethodDescriptor yX7_waysOfRank.desc).map (fun d => d.parameters.length) = some 1 := by decide +kernel
def fX7_waysOfRank  (v0 : Int32) : Option (Int64) :=
  if (7 : Int32) ≤ v0 then (
  some (1 : Int64)) else (
  some ((1 : Int64) <<< (((6 : Int32) - v0).toInt64 &&& 63)))
set_option maxRecDepth 100000 in
set_option maxHeartbeats 4000000 in
theorem kX7_waysOfRank (l : Launch) (D : va_G) (cI cJ cZ cN cM : ClassId)   (v0 : Int32) (r : Int64) (hf : fX7_waysOfRank v0 = some r) : MetL l yX7_waysOfRank wsX7_waysOfRank rmX7_waysOfRank D (TYL cI cJ cZ cN cM) [.int v0] ([]) ([]) r := by
  refine MetL.mk (cc := cX7_waysOfRank) (maxL := 1) (own := RX7) [(0, .int v0)] (by decide +kernel) rfl rfl (Nat.le_of_ble_eq_true rfl) rfl ?_
  intro p e s m args below meth c A Q C hret
  unfold fX7_waysOfRank at hf
  refine q_iload_n C 0 dX7_waysOfRank_0 rfl ?_
  refine q_bipush C 7 dX7_waysOfRank_1 (by decide) ?_
  refine q_icmp_ge C 15 dX7_waysOfRank_3 (by decide) hf (fun hf => ?_) (fun hf => ?_)
  · refine q_lconst C 1 dX7_waysOfRank_15 (by decide) ?_
    have hz1 := Option.some.inj hf
    clear hf
    subst hz1
    exact hret _ _ dX7_waysOfRank_16
  · refine q_lconst C 1 dX7_waysOfRank_6 (by decide) ?_
    refine q_bipush C 6 dX7_waysOfRank_7 (by decide) ?_
    refine q_iload_n C 0 dX7_waysOfRank_9 rfl ?_
    refine q_isub C dX7_waysOfRank_10 ?_
    refine q_lshl C dX7_waysOfRank_11 ?_
    refine q_goto C 16 dX7_waysOfRank_12 (by decide) ?_
    have hz1 := Option.some.inj hf
    clear hf
    subst hz1
    exact hret _ _ dX7_waysOfRank_16

abbrev rmX7_waysAboveRank : Room := { frames := 0, cells := 0, slots := 0, locals := 0 }
theorem hdX7_waysAboveRank : yX7_waysAboveRank.cls ≠ "java/lang/invoke/MethodHandle" ∧ yX7_waysAboveRank.cls ≠ "java/lang/invoke/VarHandle" ∧ (parseMethodDescriptor yX7_waysAboveRank.desc).map (fun d => d.parameters.length) = some 1 := by decide +kernel
def fX7_waysAboveRank  (v0 : Int32) : Option (Int64) :=
  if (7 : Int32) ≤ v0 then (
  some (0 : Int64)) else (
  some ((1 : Int64) <<< (((6 : Int32) - v0).toInt64 &&& 63)))
set_option maxRecDepth 100000 in
set_option maxHeartbeats 4000000 in
theorem kX7_waysAboveRank (l : Launch) (D : va_G) (cI cJ cZ cN cM : ClassId)   (v0 : Int32) (r : Int64) (hf : fX7_waysAboveRank v0 = some r) : MetL l yX7_waysAboveRank wsX7_waysAboveRank rmX7_waysAboveRank D (TYL cI cJ cZ cN cM) [.int v0] ([]) ([]) r := by
  refine MetL.mk (cc := cX7_waysAboveRank) (maxL := 1) (own := RX7) [(0, .int v0)] (by decide +kernel) rfl rfl (Nat.le_of_ble_eq_true rfl) rfl ?_
  intro p e s m args below meth c A Q C hret
  unfold fX7_waysAboveRank at hf
  refine q_iload_n C 0 dX7_waysAboveRank_0 rfl ?_
  refine q_bipush C 7 dX7_waysAboveRank_1 (by decide) ?_
  refine q_icmp_ge C 15 dX7_waysAboveRank_3 (by decide) hf (fun hf => ?_) (fun hf => ?_)
  · refine q_lconst C 0 dX7_waysAboveRank_15 (by decide) ?_
    have hz1 := Option.some.inj hf
    clear hf
    subst hz1
    exact hret _ _ dX7_waysAboveRank_16
  · refine q_lconst C 1 dX7_waysAboveRank_6 (by decide) ?_
    refine q_bipush C 6 dX7_waysAboveRank_7 (by decide) ?_
    refine q_iload_n C 0 dX7_waysAboveRank_9 rfl ?_
    refine q_isub C dX7_waysAboveRank_10 ?_
    refine q_lshl C dX7_waysAboveRank_11 ?_
    refine q_goto C 16 dX7_waysAboveRank_12 (by decide) ?_
    have hz1 := Option.some.inj hf
    clear hf
    subst hz1
    exact hret _ _ dX7_waysAboveRank_16

theorem lkX5_first_1 : Cond.constantLong RX5 44 (2000) ∈ wsX5_first := List.mem_of_getElem? (i := 1) rfl
abbrev rmX5_first : Room := { frames := 0, cells := 0, slots := 0, locals := 0 }
theorem hdX5_first : yX5_first.cls ≠ "java/lang/invoke/MethodHandle" ∧ yX5_first.cls ≠ "java/lang/invoke/VarHandle" ∧ (parseMethodDescriptor yX5_first.desc).map (fun d => d.parameters.length) = some 1 := by decide +kernel
def fX5_first  (v0 : Int64) : Option (Int64) :=
  some (v0 - v0 / (2000 : Int64) * (2000 : Int64))
set_option maxRecDepth 100000 in
set_option maxHeartbeats 4000000 in
theorem kX5_first (l : Launch) (D : va_G) (cI cJ cZ cN cM : ClassId)   (v0 : Int64) (r : Int64) (hf : fX5_first v0 = some r) : MetL l yX5_first wsX5_first rmX5_first D (TYL cI cJ cZ cN cM) [.long v0] ([]) ([]) r := by
  refine MetL.mk (cc := cX5_first) (maxL := 2) (own := RX5) [(0, .long v0)] (by decide +kernel) rfl rfl (Nat.le_of_ble_eq_true rfl) rfl ?_
  intro p e s m args below meth c A Q C hret
  unfold fX5_first at hf
  refine q_lload_n C 0 dX5_first_0 rfl ?_
  refine q_ldc2 C dX5_first_1 lkX5_first_1 ?_
  refine q_lremC C dX5_first_4 (by decide) ?_
  have hz1 := Option.some.inj hf
  clear hf
  subst hz1
  exact hret _ _ dX5_first_5

theorem lkX5_second_1 : Cond.constantLong RX5 44 (2000) ∈ wsX5_second := List.mem_of_getElem? (i := 1) rfl
abbrev rmX5_second : Room := { frames := 0, cells := 0, slots := 0, locals := 0 }
theorem hdX5_second : yX5_second.cls ≠ "java/lang/invoke/MethodHandle" ∧ yX5_second.cls ≠ "java/lang/invoke/VarHandle" ∧ (parseMethodDescriptor yX5_second.desc).map (fun d => d.parameters.length) = some 1 := by decide +kernel
def fX5_second  (v0 : Int64) : Option (Int64) :=
  some ((v0 / (2000 : Int64)) - (v0 / (2000 : Int64)) / (2000 : Int64) * (2000 : Int64))
set_option maxRecDepth 100000 in
set_option maxHeartbeats 4000000 in
theorem kX5_second (l : Launch) (D : va_G) (cI cJ cZ cN cM : ClassId)   (v0 : Int64) (r : Int64) (hf : fX5_second v0 = some r) : MetL l yX5_second wsX5_second rmX5_second D (TYL cI cJ cZ cN cM) [.long v0] ([]) ([]) r := by
  refine MetL.mk (cc := cX5_second) (maxL := 2) (own := RX5) [(0, .long v0)] (by decide +kernel) rfl rfl (Nat.le_of_ble_eq_true rfl) rfl ?_
  intro p e s m args below meth c A Q C hret
  unfold fX5_second at hf
  refine q_lload_n C 0 dX5_second_0 rfl ?_
  refine q_ldc2 C dX5_second_1 lkX5_second_1 ?_
  refine q_ldivC C dX5_second_4 (by decide) ?_
  refine q_ldc2 C dX5_second_5 lkX5_second_1 ?_
  refine q_lremC C dX5_second_8 (by decide) ?_
  have hz1 := Option.some.inj hf
  clear hf
  subst hz1
  exact hret _ _ dX5_second_9

theorem lkX5_third_1 : Cond.constantLong RX5 46 (4000000) ∈ wsX5_third := List.mem_of_getElem? (i := 1) rfl
abbrev rmX5_third : Room := { frames := 0, cells := 0, slots := 0, locals := 0 }
theorem hdX5_third : yX5_third.cls ≠ "java/lang/invoke/MethodHandle" ∧ yX5_third.cls ≠ "java/lang/invoke/VarHandle" ∧ (parseMethodDescriptor yX5_third.desc).map (fun d => d.parameters.length) = some 1 := by decide +kernel
def fX5_third  (v0 : Int64) : Option (Int64) :=
  some (v0 / (4000000 : Int64))
set_option maxRecDepth 100000 in
set_option maxHeartbeats 4000000 in
theorem kX5_third (l : Launch) (D : va_G) (cI cJ cZ cN cM : ClassId)   (v0 : Int64) (r : Int64) (hf : fX5_third v0 = some r) : MetL l yX5_third wsX5_third rmX5_third D (TYL cI cJ cZ cN cM) [.long v0] ([]) ([]) r := by
  refine MetL.mk (cc := cX5_third) (maxL := 2) (own := RX5) [(0, .long v0)] (by decide +kernel) rfl rfl (Nat.le_of_ble_eq_true rfl) rfl ?_
  intro p e s m args below meth c A Q C hret
  unfold fX5_third at hf
  refine q_lload_n C 0 dX5_third_0 rfl ?_
  refine q_ldc2 C dX5_third_1 lkX5_third_1 ?_
  refine q_ldivC C dX5_third_4 (by decide) ?_
  have hz1 := Option.some.inj hf
  clear hf
  subst hz1
  exact hret _ _ dX5_third_5

theorem lkX5_withMark_1 : Cond.constantLong RX5 44 (2000) ∈ wsX5_withMark := List.mem_of_getElem? (i := 1) rfl
theorem lkX5_withMark_2 : Cond.constantLong RX5 46 (4000000) ∈ wsX5_withMark := List.mem_of_getElem? (i := 2) rfl
abbrev rmX5_withMark : Room := { frames := 1, cells := 0, slots := 0, locals := 21 }
theorem hdX5_withMark : yX5_withMark.cls ≠ "java/lang/invoke/MethodHandle" ∧ yX5_withMark.cls ≠ "java/lang/invoke/VarHandle" ∧ (parseMethodDescriptor yX5_withMark.desc).map (fun d => d.parameters.length) = some 2 := by decide +kernel
def fX5_withMark  (v0 : Int64) (v2 : Int64) : Option (Int64) :=
  (fX5_first v0).bind fun x1 =>
  (fX5_second v0).bind fun x7 =>
  (fX5_third v0).bind fun x13 =>
  jn0 (
  some v0) fun k39 =>
  if (lg_cmp v2 x1) = 0 then (
  k39) else (
  if (lg_cmp v2 x7) = 0 then (
  k39) else (
  if (lg_cmp v2 x13) < 0 then (
  if 0 ≤ (lg_cmp v2 x1) then (
  if 0 ≤ (lg_cmp v2 x7) then (
  some ((x1 + ((2000 : Int64) * x7)) + ((4000000 : Int64) * v2))) else (
  some ((x1 + ((2000 : Int64) * v2)) + ((4000000 : Int64) * x7)))) else (
  some ((v2 + ((2000 : Int64) * x1)) + ((4000000 : Int64) * x7)))) else (
  k39)))
set_option maxRecDepth 100000 in
set_option maxHeartbeats 4000000 in
theorem kX5_withMark (l : Launch) (D : va_G) (cI cJ cZ cN cM : ClassId)   (v0 : Int64) (v2 : Int64) (r : Int64) (hf : fX5_withMark v0 v2 = some r) : MetL l yX5_withMark wsX5_withMark rmX5_withMark D (TYL cI cJ cZ cN cM) [.long v0, .long v2] ([]) ([]) r := by
  refine MetL.mk (cc := cX5_withMark) (maxL := 10) (own := RX5) [(0, .long v0), (2, .long v2)] (by decide +kernel) rfl rfl (Nat.le_of_ble_eq_true rfl) rfl ?_
  intro p e s m args below meth c A Q C hret
  unfold fX5_withMark at hf
  refine q_lload_n C 0 dX5_withMark_0 rfl ?_
  obtain ⟨x1, hM, hf⟩ := bd_e hf
  refine q_callSL C ([]) (kX5_first l D cI cJ cZ cN cM   v0 x1 hM) (va_cwS 1 C.1.2.2.2.2 gX5_withMark_X5_first rfl rfl rfl hdX5_first ⟨Nat.le_of_ble_eq_true rfl, Nat.le_of_ble_eq_true rfl⟩) FrX.none rfl rfl (Nat.le_of_ble_eq_true rfl) dX5_withMark_1 ⟨Nat.zero_le _, Nat.zero_le _⟩ ?_
  refine q_lstore C [(4, .long x1), (0, .long v0), (2, .long v2)] dX5_withMark_4 (by decide) rfl ?_
  refine q_lload_n C 1 dX5_withMark_6 rfl ?_
  obtain ⟨x7, hM, hf⟩ := bd_e hf
  refine q_callSL C ([]) (kX5_second l D cI cJ cZ cN cM   v0 x7 hM) (va_cwS 1 C.1.2.2.2.2 gX5_withMark_X5_second rfl rfl rfl hdX5_second ⟨Nat.le_of_ble_eq_true rfl, Nat.le_of_ble_eq_true rfl⟩) FrX.none rfl rfl (Nat.le_of_ble_eq_true rfl) dX5_withMark_7 ⟨Nat.zero_le _, Nat.zero_le _⟩ ?_
  refine q_lstore C [(6, .long x7), (4, .long x1), (0, .long v0), (2, .long v2)] dX5_withMark_10 (by decide) rfl ?_
  refine q_lload_n C 2 dX5_withMark_12 rfl ?_
  obtain ⟨x13, hM, hf⟩ := bd_e hf
  refine q_callSL C ([]) (kX5_third l D cI cJ cZ cN cM   v0 x13 hM) (va_cwS 1 C.1.2.2.2.2 gX5_withMark_X5_third rfl rfl rfl hdX5_third ⟨Nat.le_of_ble_eq_true rfl, Nat.le_of_ble_eq_true rfl⟩) FrX.none rfl rfl (Nat.le_of_ble_eq_true rfl) dX5_withMark_13 ⟨Nat.zero_le _, Nat.zero_le _⟩ ?_
  refine q_lstore C [(8, .long x13), (6, .long x7), (4, .long x1), (0, .long v0), (2, .long v2)] dX5_withMark_16 (by decide) rfl ?_
  refine q_lload_n C 4 dX5_withMark_18 rfl ?_
  refine q_lload C 2 dX5_withMark_19 rfl ?_
  refine q_lcmp C dX5_withMark_21 ?_
  refine jn0_e (WW p l e rmX5_withMark s m args below meth c Q D A 10 0 0 ([]) [(0, .long v0)] 39 []) hf ?_ ?_
  · intro hf
    refine q_lload_n C 0 dX5_withMark_39 rfl ?_
    have hz1 := Option.some.inj hf
    clear hf
    subst hz1
    exact hret _ _ dX5_withMark_40
  intro k39 J39 hf
  refine q_if_eq C 39 dX5_withMark_22 (by decide) hf (fun hf => ?_) (fun hf => ?_)
  · refine q_lv [(0, .long v0)] [3] rfl ?_
    exact J39  hf
  · refine q_lload_n C 4 dX5_withMark_25 rfl ?_
    refine q_lload C 1 dX5_withMark_26 rfl ?_
    refine q_lcmp C dX5_withMark_28 ?_
    refine q_if_eq C 39 dX5_withMark_29 (by decide) hf (fun hf => ?_) (fun hf => ?_)
    · refine q_lv [(0, .long v0)] [3] rfl ?_
      exact J39  hf
    · refine q_lload_n C 4 dX5_withMark_32 rfl ?_
      refine q_lload C 0 dX5_withMark_33 rfl ?_
      refine q_lcmp C dX5_withMark_35 ?_
      refine q_if_lt C 41 dX5_withMark_36 (by decide) hf (fun hf => ?_) (fun hf => ?_)
      · refine q_lload_n C 4 dX5_withMark_41 rfl ?_
        refine q_lload C 2 dX5_withMark_42 rfl ?_
        refine q_lcmp C dX5_withMark_44 ?_
        refine q_if_ge C 64 dX5_withMark_45 (by decide) hf (fun hf => ?_) (fun hf => ?_)
        · refine q_lload_n C 4 dX5_withMark_64 rfl ?_
          refine q_lload C 1 dX5_withMark_65 rfl ?_
          refine q_lcmp C dX5_withMark_67 ?_
          refine q_if_ge C 89 dX5_withMark_68 (by decide) hf (fun hf => ?_) (fun hf => ?_)
          · refine q_lload C 2 dX5_withMark_89 rfl ?_
            refine q_ldc2 C dX5_withMark_91 lkX5_withMark_1 ?_
            refine q_lload C 1 dX5_withMark_94 rfl ?_
            refine q_lmul C dX5_withMark_96 ?_
            refine q_ladd C dX5_withMark_97 ?_
            refine q_ldc2 C dX5_withMark_98 lkX5_withMark_2 ?_
            refine q_lload_n C 4 dX5_withMark_101 rfl ?_
            refine q_lmul C dX5_withMark_102 ?_
            refine q_ladd C dX5_withMark_103 ?_
            have hz1 := Option.some.inj hf
            clear hf
            subst hz1
            exact hret _ _ dX5_withMark_104
          · refine q_lload C 2 dX5_withMark_71 rfl ?_
            refine q_ldc2 C dX5_withMark_73 lkX5_withMark_1 ?_
            refine q_lload_n C 4 dX5_withMark_76 rfl ?_
            refine q_lmul C dX5_withMark_77 ?_
            refine q_ladd C dX5_withMark_78 ?_
            refine q_ldc2 C dX5_withMark_79 lkX5_withMark_2 ?_
            refine q_lload C 1 dX5_withMark_82 rfl ?_
            refine q_lmul C dX5_withMark_84 ?_
            refine q_ladd C dX5_withMark_85 ?_
            refine q_goto C 104 dX5_withMark_86 (by decide) ?_
            have hz1 := Option.some.inj hf
            clear hf
            subst hz1
            exact hret _ _ dX5_withMark_104
        · refine q_lload_n C 4 dX5_withMark_48 rfl ?_
          refine q_ldc2 C dX5_withMark_49 lkX5_withMark_1 ?_
          refine q_lload C 2 dX5_withMark_52 rfl ?_
          refine q_lmul C dX5_withMark_54 ?_
          refine q_ladd C dX5_withMark_55 ?_
          refine q_ldc2 C dX5_withMark_56 lkX5_withMark_2 ?_
          refine q_lload C 1 dX5_withMark_59 rfl ?_
          refine q_lmul C dX5_withMark_61 ?_
          refine q_ladd C dX5_withMark_62 ?_
          have hz1 := Option.some.inj hf
          clear hf
          subst hz1
          exact hret _ _ dX5_withMark_63
      · refine q_lv [(0, .long v0)] [3] rfl ?_
        exact J39  hf

theorem lkX5_ofItems_1 : Cond.constantLong RX5 17 (4098049024) ∈ wsX5_ofItems := List.mem_of_getElem? (i := 1) rfl
theorem lkX5_ofItems_9 : Cond.static yX7_isIn ∈ wsX5_ofItems := List.mem_of_getElem? (i := 9) rfl
theorem lkX5_ofItems_10 : Cond.initialized RX7 ∈ wsX5_ofItems := List.mem_of_getElem? (i := 10) rfl
theorem lkX5_ofItems_12 : Cond.static yX7_markOf ∈ wsX5_ofItems := List.mem_of_getElem? (i := 12) rfl
theorem lkX5_ofItems_33 : Cond.static yX7_rankOf ∈ wsX5_ofItems := List.mem_of_getElem? (i := 33) rfl
abbrev rmX5_ofItems : Room := { frames := 2, cells := 0, slots := 0, locals := 50 }
theorem hdX5_ofItems : yX5_ofItems.cls ≠ "java/lang/invoke/MethodHandle" ∧ yX5_ofItems.cls ≠ "java/lang/invoke/VarHandle" ∧ (parseMethodDescriptor yX5_ofItems.desc).map (fun d => d.parameters.length) = some 3 := by decide +kernel
def fX5_ofItems_L34 (v0 : Int32) (v1 : Int32) (v2 : Int32) : Nat → Int64 → Int32 → Option (Int64)
  | 0, _, _ => none
  | n + 1, v3, v5 =>
  if (16 : Int32) ≤ v5 then (
  some v3) else (
  (fX7_isIn v0 v5).bind fun x44 =>
  jn1 (fun (u3_83 : Int64) => 
  fX5_ofItems_L34 v0 v1 v2 n u3_83 (v5 + 1)) fun k83 =>
  if x44 = 0 then (
  k83 v3) else (
  (fX7_markOf v5 v2).bind fun x53 =>
  jn1 (fun (t0_82 : Int64) => 
  k83 t0_82) fun k82 =>
  if v1 = (2 : Int32) then (
  (fX5_withMark v3 x53.toInt64).bind fun x67 =>
  k82 x67) else (
  (fX7_rankOf x53).bind fun x77 =>
  k82 (v3 ||| ((1 : Int64) <<< (x77.toInt64 &&& 63))))))
def fX5_ofItems  (v0 : Int32) (v1 : Int32) (v2 : Int32) : Option (Int64) :=
  if v1 = 0 then (
  (fJ6_bitCount_0f7a4 v0).bind fun x5 =>
  some x5.toInt64) else (
  if v1 = (3 : Int32) then (
  some v0.toInt64) else (
  jn1 (fun (t0_30 : Int64) => 
  (fX5_ofItems_L34 v0 v1 v2 300 t0_30 (0 : Int32)).bind fun v3_34 =>
  some v3_34) fun k30 =>
  if v1 = (2 : Int32) then (
  k30 (4098049024 : Int64)) else (
  k30 (0 : Int64))))
set_option maxRecDepth 100000 in
set_option maxHeartbeats 4000000 in
theorem wX5_ofItems_L34 {p : Program} {l : Launch} {e : Env} {s : State} {m : MethodId} {args : Array Value} {below : List Frame} {meth : Method} {c : Code} {Q : State → Prop} {D : va_G} {A : Nat → Prop} {cI cJ cZ cN cM : ClassId} (C : Cx p s m args c cX5_ofItems 7 RX5 wsX5_ofItems D (TYL cI cJ cZ cN cM) A)   (v0 : Int32) (v1 : Int32) (v2 : Int32) (o3 : Int64) (kk : WW p l e rmX5_ofItems s m args below meth c Q D A 7 0 0 ([]) [(3, .long o3)] 89 []) : ∀ (n : Nat) (v3 : Int64) (v5 : Int32), fX5_ofItems_L34 v0 v1 v2 n v3 v5 = some o3 → WW p l e rmX5_ofItems s m args below meth c Q D A 7 0 0 ([]) [(0, .int v0), (1, .int v1), (2, .int v2), (3, .long v3), (5, .int v5)] 34 [] := by
  intro n
  induction n with
  | zero =>
    intro v3 v5 hf
    rw [fX5_ofItems_L34] at hf
    cases hf
  | succ n ih =>
    intro v3 v5 hf
    rw [fX5_ofItems_L34] at hf
    refine q_iload C 4 dX5_ofItems_34 rfl ?_
    refine q_bipush C 16 dX5_ofItems_36 (by decide) ?_
    refine q_icmp_ge C 89 dX5_ofItems_38 (by decide) hf (fun hf => ?_) (fun hf => ?_)
    · refine q_lv [(3, .long v3)] [3] rfl ?_
      have hz1 := Option.some.inj hf
      clear hf
      subst hz1
      exact kk
    · refine q_iload_n C 0 dX5_ofItems_41 rfl ?_
      refine q_iload C 4 dX5_ofItems_42 rfl ?_
      obtain ⟨x44, hM, hf⟩ := bd_e hf
      refine q_callSNI C ([]) (kX7_isIn l D cI cJ cZ cN cM   v0 v5 x44 hM) ⟨va_cnB 2 C.1.2.2.2.2 gX5_ofItems_X7_isIn_n19 rfl rfl rfl C.2.2.2.2.2.1 (C.1.2.2.2.2 _ lkX5_ofItems_10) hdX7_isIn ⟨Nat.le_of_ble_eq_true rfl, Nat.le_of_ble_eq_true rfl⟩, C.1.2.2.2.2 _ lkX5_ofItems_9, trivial⟩ FrX.none rfl rfl (Nat.le_of_ble_eq_true rfl) dX5_ofItems_44 ⟨Nat.zero_le _, Nat.zero_le _⟩ ?_
      refine jn1_e (fun (u3_83 : Int64) => WW p l e rmX5_ofItems s m args below meth c Q D A 7 0 0 ([]) [(0, .int v0), (1, .int v1), (2, .int v2), (3, .long u3_83), (5, .int v5)] 83 []) hf ?_ ?_
      · intro u3_83 hf
        refine q_iinc C (v5 + 1) 4 [(5, .int (v5 + 1)), (0, .int v0), (1, .int v1), (2, .int v2), (3, .long u3_83)] dX5_ofItems_83 rfl rfl (by decide) rfl ?_
        refine q_goto C 34 dX5_ofItems_86 (by decide) ?_
        refine q_lv [(0, .int v0), (1, .int v1), (2, .int v2), (3, .long u3_83), (5, .int (v5 + 1))] [1, 2, 3, 4, 0] rfl ?_
        exact ih _ _ hf
      intro k83 J83 hf
      refine q_if_eq C 83 dX5_ofItems_47 (by decide) hf (fun hf => ?_) (fun hf => ?_)
      · exact J83 _ hf
      · refine q_iload C 4 dX5_ofItems_50 rfl ?_
        refine q_iload_n C 2 dX5_ofItems_52 rfl ?_
        obtain ⟨x53, hM, hf⟩ := bd_e hf
        refine q_callSNI C ([]) (kX7_markOf l D cI cJ cZ cN cM   v5 v2 x53 hM) ⟨va_cnB 2 C.1.2.2.2.2 gX5_ofItems_X7_markOf_n23 rfl rfl rfl C.2.2.2.2.2.2.1 (C.1.2.2.2.2 _ lkX5_ofItems_10) hdX7_markOf ⟨Nat.le_of_ble_eq_true rfl, Nat.le_of_ble_eq_true rfl⟩, C.1.2.2.2.2 _ lkX5_ofItems_12, trivial⟩ FrX.none rfl rfl (Nat.le_of_ble_eq_true rfl) dX5_ofItems_53 ⟨Nat.zero_le _, Nat.zero_le _⟩ ?_
        refine q_istore C [(6, .int x53), (0, .int v0), (1, .int v1), (2, .int v2), (3, .long v3), (5, .int v5)] dX5_ofItems_56 (by decide) rfl ?_
        refine q_iload_n C 2 dX5_ofItems_58 rfl ?_
        refine q_iconst C 2 dX5_ofItems_59 (by decide) ?_
        refine jn1_e (fun (t0_82 : Int64) => WW p l e rmX5_ofItems s m args below meth c Q D A 7 0 0 ([]) [(0, .int v0), (1, .int v1), (2, .int v2), (5, .int v5)] 82 [.long t0_82]) hf ?_ ?_
        · intro t0_82 hf
          refine q_lstore_n C [(3, .long t0_82), (0, .int v0), (1, .int v1), (2, .int v2), (5, .int v5)] dX5_ofItems_82 (by decide) rfl ?_
          refine q_lv [(0, .int v0), (1, .int v1), (2, .int v2), (3, .long t0_82), (5, .int v5)] [1, 2, 3, 0, 4] rfl ?_
          exact J83 _ hf
        intro k82 J82 hf
        refine q_icmp_ne C 73 dX5_ofItems_60 (by decide) hf (fun hf => ?_) (fun hf => ?_)
        · refine q_lload_n C 4 dX5_ofItems_73 rfl ?_
          refine q_lconst C 1 dX5_ofItems_74 (by decide) ?_
          refine q_iload C 0 dX5_ofItems_75 rfl ?_
          obtain ⟨x77, hM, hf⟩ := bd_e hf
          refine q_callSNI C ([]) (kX7_rankOf l D cI cJ cZ cN cM   x53 x77 hM) ⟨va_cnB 1 C.1.2.2.2.2 gX5_ofItems_X7_rankOf_n31 rfl rfl rfl C.2.2.2.2.2.2.2.1 (C.1.2.2.2.2 _ lkX5_ofItems_10) hdX7_rankOf ⟨Nat.le_of_ble_eq_true rfl, Nat.le_of_ble_eq_true rfl⟩, C.1.2.2.2.2 _ lkX5_ofItems_33, trivial⟩ FrX.none rfl rfl (Nat.le_of_ble_eq_true rfl) dX5_ofItems_77 ⟨Nat.zero_le _, Nat.zero_le _⟩ ?_
          refine q_lshl C dX5_ofItems_80 ?_
          refine q_lor C dX5_ofItems_81 ?_
          refine q_lv [(0, .int v0), (1, .int v1), (2, .int v2), (5, .int v5)] [1, 2, 3, 5] rfl ?_
          exact J82 _ hf
        · refine q_lload_n C 4 dX5_ofItems_63 rfl ?_
          refine q_iload C 0 dX5_ofItems_64 rfl ?_
          refine q_i2l C dX5_ofItems_66 ?_
          obtain ⟨x67, hM, hf⟩ := bd_e hf
          refine q_callSL C ([]) (kX5_withMark l D cI cJ cZ cN cM   v3 x53.toInt64 x67 hM) (va_cwS 2 C.1.2.2.2.2 gX5_ofItems_X5_withMark rfl rfl rfl hdX5_withMark ⟨Nat.le_of_ble_eq_true rfl, Nat.le_of_ble_eq_true rfl⟩) FrX.none rfl rfl (Nat.le_of_ble_eq_true rfl) dX5_ofItems_67 ⟨Nat.zero_le _, Nat.zero_le _⟩ ?_
          refine q_goto C 82 dX5_ofItems_70 (by decide) ?_
          refine q_lv [(0, .int v0), (1, .int v1), (2, .int v2), (5, .int v5)] [1, 2, 3, 5] rfl ?_
          exact J82 _ hf
set_option maxRecDepth 100000 in
set_option maxHeartbeats 4000000 in
theorem kX5_ofItems (l : Launch) (D : va_G) (cI cJ cZ cN cM : ClassId)   (v0 : Int32) (v1 : Int32) (v2 : Int32) (r : Int64) (hf : fX5_ofItems v0 v1 v2 = some r) : MetL l yX5_ofItems wsX5_ofItems rmX5_ofItems D (TYL cI cJ cZ cN cM) [.int v0, .int v1, .int v2] ([]) ([]) r := by
  refine MetL.mk (cc := cX5_ofItems) (maxL := 7) (own := RX5) [(0, .int v0), (1, .int v1), (2, .int v2)] (by decide +kernel) rfl rfl (Nat.le_of_ble_eq_true rfl) rfl ?_
  intro p e s m args below meth c A Q C hret
  unfold fX5_ofItems at hf
  refine q_iload_n C 1 dX5_ofItems_0 rfl ?_
  refine q_if_ne C 10 dX5_ofItems_1 (by decide) hf (fun hf => ?_) (fun hf => ?_)
  · refine q_iload_n C 1 dX5_ofItems_10 rfl ?_
    refine q_iconst C 3 dX5_ofItems_11 (by decide) ?_
    refine q_icmp_ne C 18 dX5_ofItems_12 (by decide) hf (fun hf => ?_) (fun hf => ?_)
    · refine q_iload_n C 1 dX5_ofItems_18 rfl ?_
      refine q_iconst C 2 dX5_ofItems_19 (by decide) ?_
      refine jn1_e (fun (t0_30 : Int64) => WW p l e rmX5_ofItems s m args below meth c Q D A 7 0 0 ([]) [(0, .int v0), (1, .int v1), (2, .int v2)] 30 [.long t0_30]) hf ?_ ?_
      · intro t0_30 hf
        refine q_lstore_n C [(3, .long t0_30), (0, .int v0), (1, .int v1), (2, .int v2)] dX5_ofItems_30 (by decide) rfl ?_
        refine q_iconst C 0 dX5_ofItems_31 (by decide) ?_
        refine q_istore C [(5, .int (0 : Int32)), (3, .long t0_30), (0, .int v0), (1, .int v1), (2, .int v2)] dX5_ofItems_32 (by decide) rfl ?_
        obtain ⟨v3_34, hL, hf⟩ := bd_e hf
        refine q_lv [(0, .int v0), (1, .int v1), (2, .int v2), (3, .long t0_30), (5, .int (0 : Int32))] [2, 3, 4, 1, 0] rfl ?_
        refine wX5_ofItems_L34 C   v0 v1 v2 v3_34 ?_ 300 _ _ hL
        refine q_lload_n C 0 dX5_ofItems_89 rfl ?_
        have hz1 := Option.some.inj hf
        clear hf
        subst hz1
        exact hret _ _ dX5_ofItems_90
      intro k30 J30 hf
      refine q_icmp_ne C 29 dX5_ofItems_20 (by decide) hf (fun hf => ?_) (fun hf => ?_)
      · refine q_lconst C 0 dX5_ofItems_29 (by decide) ?_
        exact J30 _ hf
      · refine q_ldc2 C dX5_ofItems_23 lkX5_ofItems_1 ?_
        refine q_goto C 30 dX5_ofItems_26 (by decide) ?_
        exact J30 _ hf
    · refine q_iload_n C 0 dX5_ofItems_15 rfl ?_
      refine q_i2l C dX5_ofItems_16 ?_
      have hz1 := Option.some.inj hf
      clear hf
      subst hz1
      exact hret _ _ dX5_ofItems_17
  · refine q_iload_n C 0 dX5_ofItems_4 rfl ?_
    obtain ⟨x5, hM, hf⟩ := bd_e hf
    refine q_callSI C ([]) (kJ6_bitCount_0f7a4 l D cI cJ cZ cN cM   v0 x5 hM) (va_cwS 1 C.1.2.2.2.2 gX5_ofItems_J6_bitCount_0f7a4 rfl rfl rfl hdJ6_bitCount_0f7a4 ⟨Nat.le_of_ble_eq_true rfl, Nat.le_of_ble_eq_true rfl⟩) FrX.none rfl rfl (Nat.le_of_ble_eq_true rfl) dX5_ofItems_5 ⟨Nat.zero_le _, Nat.zero_le _⟩ ?_
    refine q_i2l C dX5_ofItems_8 ?_
    have hz1 := Option.some.inj hf
    clear hf
    subst hz1
    exact hret _ _ dX5_ofItems_9

abbrev rmX5_together : Room := { frames := 2, cells := 0, slots := 0, locals := 50 }
theorem hdX5_together : yX5_together.cls ≠ "java/lang/invoke/MethodHandle" ∧ yX5_together.cls ≠ "java/lang/invoke/VarHandle" ∧ (parseMethodDescriptor yX5_together.desc).map (fun d => d.parameters.length) = some 3 := by decide +kernel
def fX5_together  (v0 : Int64) (v2 : Int64) (v4 : Int32) : Option (Int64) :=
  if v4 = 0 then (
  some (v0 + v2)) else (
  if v4 = (2 : Int32) then (
  (fX5_first v2).bind fun x21 =>
  (fX5_withMark v0 x21).bind fun x24 =>
  (fX5_second v2).bind fun x28 =>
  (fX5_withMark x24 x28).bind fun x31 =>
  (fX5_third v2).bind fun x35 =>
  (fX5_withMark x31 x35).bind fun x38 =>
  some x38) else (
  some (v0 ||| v2)))
set_option maxRecDepth 100000 in
set_option maxHeartbeats 4000000 in
theorem kX5_together (l : Launch) (D : va_G) (cI cJ cZ cN cM : ClassId)   (v0 : Int64) (v2 : Int64) (v4 : Int32) (r : Int64) (hf : fX5_together v0 v2 v4 = some r) : MetL l yX5_together wsX5_together rmX5_together D (TYL cI cJ cZ cN cM) [.long v0, .long v2, .int v4] ([]) ([]) r := by
  refine MetL.mk (cc := cX5_together) (maxL := 5) (own := RX5) [(0, .long v0), (2, .long v2), (4, .int v4)] (by decide +kernel) rfl rfl (Nat.le_of_ble_eq_true rfl) rfl ?_
  intro p e s m args below meth c A Q C hret
  unfold fX5_together at hf
  refine q_iload C 2 dX5_together_0 rfl ?_
  refine q_if_ne C 9 dX5_together_2 (by decide) hf (fun hf => ?_) (fun hf => ?_)
  · refine q_iload C 2 dX5_together_9 rfl ?_
    refine q_iconst C 2 dX5_together_11 (by decide) ?_
    refine q_icmp_eq C 19 dX5_together_12 (by decide) hf (fun hf => ?_) (fun hf => ?_)
    · refine q_lload_n C 0 dX5_together_19 rfl ?_
      refine q_lload_n C 1 dX5_together_20 rfl ?_
      obtain ⟨x21, hM, hf⟩ := bd_e hf
      refine q_callSL C ([]) (kX5_first l D cI cJ cZ cN cM   v2 x21 hM) (va_cwS 1 C.1.2.2.2.2 gX5_together_X5_first rfl rfl rfl hdX5_first ⟨Nat.le_of_ble_eq_true rfl, Nat.le_of_ble_eq_true rfl⟩) FrX.none rfl rfl (Nat.le_of_ble_eq_true rfl) dX5_together_21 ⟨Nat.zero_le _, Nat.zero_le _⟩ ?_
      obtain ⟨x24, hM, hf⟩ := bd_e hf
      refine q_callSL C ([]) (kX5_withMark l D cI cJ cZ cN cM   v0 x21 x24 hM) (va_cwS 2 C.1.2.2.2.2 gX5_together_X5_withMark rfl rfl rfl hdX5_withMark ⟨Nat.le_of_ble_eq_true rfl, Nat.le_of_ble_eq_true rfl⟩) FrX.none rfl rfl (Nat.le_of_ble_eq_true rfl) dX5_together_24 ⟨Nat.zero_le _, Nat.zero_le _⟩ ?_
      refine q_lload_n C 1 dX5_together_27 rfl ?_
      obtain ⟨x28, hM, hf⟩ := bd_e hf
      refine q_callSL C ([]) (kX5_second l D cI cJ cZ cN cM   v2 x28 hM) (va_cwS 1 C.1.2.2.2.2 gX5_together_X5_second rfl rfl rfl hdX5_second ⟨Nat.le_of_ble_eq_true rfl, Nat.le_of_ble_eq_true rfl⟩) FrX.none rfl rfl (Nat.le_of_ble_eq_true rfl) dX5_together_28 ⟨Nat.zero_le _, Nat.zero_le _⟩ ?_
      obtain ⟨x31, hM, hf⟩ := bd_e hf
      refine q_callSL C ([]) (kX5_withMark l D cI cJ cZ cN cM   x24 x28 x31 hM) (va_cwS 2 C.1.2.2.2.2 gX5_together_X5_withMark rfl rfl rfl hdX5_withMark ⟨Nat.le_of_ble_eq_true rfl, Nat.le_of_ble_eq_true rfl⟩) FrX.none rfl rfl (Nat.le_of_ble_eq_true rfl) dX5_together_31 ⟨Nat.zero_le _, Nat.zero_le _⟩ ?_
      refine q_lload_n C 1 dX5_together_34 rfl ?_
      obtain ⟨x35, hM, hf⟩ := bd_e hf
      refine q_callSL C ([]) (kX5_third l D cI cJ cZ cN cM   v2 x35 hM) (va_cwS 1 C.1.2.2.2.2 gX5_together_X5_third rfl rfl rfl hdX5_third ⟨Nat.le_of_ble_eq_true rfl, Nat.le_of_ble_eq_true rfl⟩) FrX.none rfl rfl (Nat.le_of_ble_eq_true rfl) dX5_together_35 ⟨Nat.zero_le _, Nat.zero_le _⟩ ?_
      obtain ⟨x38, hM, hf⟩ := bd_e hf
      refine q_callSL C ([]) (kX5_withMark l D cI cJ cZ cN cM   x31 x35 x38 hM) (va_cwS 2 C.1.2.2.2.2 gX5_together_X5_withMark rfl rfl rfl hdX5_withMark ⟨Nat.le_of_ble_eq_true rfl, Nat.le_of_ble_eq_true rfl⟩) FrX.none rfl rfl (Nat.le_of_ble_eq_true rfl) dX5_together_38 ⟨Nat.zero_le _, Nat.zero_le _⟩ ?_
      have hz1 := Option.some.inj hf
      clear hf
      subst hz1
      exact hret _ _ dX5_together_41
    · refine q_lload_n C 0 dX5_together_15 rfl ?_
      refine q_lload_n C 1 dX5_together_16 rfl ?_
      refine q_lor C dX5_together_17 ?_
      have hz1 := Option.some.inj hf
      clear hf
      subst hz1
      exact hret _ _ dX5_together_18
  · refine q_lload_n C 0 dX5_together_5 rfl ?_
    refine q_lload_n C 1 dX5_together_6 rfl ?_
    refine q_ladd C dX5_together_7 ?_
    have hz1 := Option.some.inj hf
    clear hf
    subst hz1
    exact hret _ _ dX5_together_8
