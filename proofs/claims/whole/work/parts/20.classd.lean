theorem lkX6_allArrivals_1 : Cond.fieldLink RX6 31 "TwiceHeard$Telling" "arrivals" "[I" ∈ wsX6_allArrivals := List.mem_of_getElem? (i := 1) rfl
theorem inX6_allArrivals_X6 : ∀ w ∈ wsX60, w ∈ wsX6_allArrivals := fun w h => List.mem_cons_of_mem _ (List.mem_append_right _ h)
abbrev rmX6_allArrivals : Room := { frames := 0, cells := 0, slots := 0, locals := 0 }
theorem hdX6_allArrivals : yX6_allArrivals.cls = RX6 ∧ yX6_allArrivals.cls ≠ "java/lang/invoke/MethodHandle" ∧ yX6_allArrivals.cls ≠ "java/lang/invoke/VarHandle" ∧ (parseMethodDescriptor yX6_allArrivals.desc).map (fun d => d.parameters.length) = some 0 := by decide +kernel
def fX6_allArrivals_L13 (ar : (Nat → Int32)) (v3 : Int32) : Nat → Int32 → Int32 → Option (Int32)
  | 0, _, _ => none
  | n + 1, v1, v4 =>
  if v3 ≤ v4 then (
  some v1) else (
  (rdI 9 ar v4).bind fun x22 =>
  fX6_allArrivals_L13 ar v3 n (v1 + x22) (v4 + 1))
def fX6_allArrivals (ar : (Nat → Int32))  : Option (Int32) :=
  (fX6_allArrivals_L13 ar (9 : Int32) 300 (0 : Int32) (0 : Int32)).bind fun v1_13 =>
  some v1_13
set_option maxRecDepth 100000 in
set_option maxHeartbeats 4000000 in
theorem wX6_allArrivals_L13 {p : Program} {l : Launch} {e : Env} {s : State} {m : MethodId} {args : Array Value} {below : List Frame} {meth : Method} {c : Code} {Q : State → Prop} {D : va_G} {A : Nat → Prop} {cI cJ cZ cN cM : ClassId} (C : Cx p s m args c cX6_allArrivals 6 RX6 wsX6_allArrivals D (TYL cI cJ cZ cN cM) A) (ta : Nat → Nat) (ri : (Nat → Int32)) (rs : (Nat → Int32)) (gr : Int32) (fm : (Nat → Int32)) (tt : (Nat → Int32)) (co : (Nat → Int32)) (le : Int32) (wa : (Nat → Int32)) (ar : (Nat → Int32)) (hd : (Nat → Int64)) (v3 : Int32) (o1 : Int32) (kk : WW p l e rmX6_allArrivals s m args below meth c Q D A 6 0 0 (tW cI cJ cZ cN cM ta ri rs gr fm tt co le wa ar hd) [(1, .int o1)] 36 []) : ∀ (n : Nat) (v1 : Int32) (v4 : Int32), fX6_allArrivals_L13 ar v3 n v1 v4 = some o1 → WW p l e rmX6_allArrivals s m args below meth c Q D A 6 0 0 (tW cI cJ cZ cN cM ta ri rs gr fm tt co le wa ar hd) [(1, .int v1), (2, .ref (ta 7)), (3, .int v3), (4, .int v4)] 13 [] := by
  intro n
  induction n with
  | zero =>
    intro v1 v4 hf
    rw [fX6_allArrivals_L13] at hf
    cases hf
  | succ n ih =>
    intro v1 v4 hf
    rw [fX6_allArrivals_L13] at hf
    refine q_iload C 3 dX6_allArrivals_13 rfl ?_
    refine q_iload_n C 2 dX6_allArrivals_15 rfl ?_
    refine q_icmp_ge C 36 dX6_allArrivals_16 (by decide) hf (fun hf => ?_) (fun hf => ?_)
    · refine q_lv [(1, .int v1)] [0] rfl ?_
      have hz1 := Option.some.inj hf
      clear hf
      subst hz1
      exact kk
    · refine q_aload_n C 1 dX6_allArrivals_19 rfl ?_
      refine q_iload C 3 dX6_allArrivals_20 rfl ?_
      refine q_iald C 7 0 dX6_allArrivals_22 rfl rfl hf (fun x22 hf => ?_)
      refine q_istore C [(5, .int x22), (1, .int v1), (2, .ref (ta 7)), (3, .int v3), (4, .int v4)] dX6_allArrivals_23 (by decide) rfl ?_
      refine q_iload_n C 1 dX6_allArrivals_25 rfl ?_
      refine q_iload C 0 dX6_allArrivals_26 rfl ?_
      refine q_iadd C dX6_allArrivals_28 ?_
      refine q_istore_n C [(1, .int (v1 + x22)), (5, .int x22), (2, .ref (ta 7)), (3, .int v3), (4, .int v4)] dX6_allArrivals_29 (by decide) rfl ?_
      refine q_iinc C (v4 + 1) 4 [(4, .int (v4 + 1)), (1, .int (v1 + x22)), (5, .int x22), (2, .ref (ta 7)), (3, .int v3)] dX6_allArrivals_30 rfl rfl (by decide) rfl ?_
      refine q_goto C 13 dX6_allArrivals_33 (by decide) ?_
      refine q_lv [(1, .int (v1 + x22)), (2, .ref (ta 7)), (3, .int v3), (4, .int (v4 + 1))] [1, 3, 4, 0] rfl ?_
      exact ih _ _ hf
set_option maxRecDepth 100000 in
set_option maxHeartbeats 4000000 in
theorem kX6_allArrivals (l : Launch) (D : va_G) (cI cJ cZ cN cM : ClassId) (ta : Nat → Nat) (ri : (Nat → Int32)) (rs : (Nat → Int32)) (gr : Int32) (fm : (Nat → Int32)) (tt : (Nat → Int32)) (co : (Nat → Int32)) (le : Int32) (wa : (Nat → Int32)) (ar : (Nat → Int32)) (hd : (Nat → Int64))  (r : Int32) (hf : fX6_allArrivals ar = some r) : MetI l yX6_allArrivals wsX6_allArrivals rmX6_allArrivals D (TYL cI cJ cZ cN cM) [.ref (ta 0)] (tW cI cJ cZ cN cM ta ri rs gr fm tt co le wa ar hd) (tW cI cJ cZ cN cM ta ri rs gr fm tt co le wa ar hd) r := by
  refine MetI.mk (cc := cX6_allArrivals) (maxL := 6) (own := RX6) (ty := .int) [(0, .ref (ta 0))] (by decide +kernel) rfl rfl (Nat.le_of_ble_eq_true rfl) rfl ?_
  intro p e s m args below meth c A Q C hret
  unfold fX6_allArrivals at hf
  refine q_iconst C 0 dX6_allArrivals_0 (by decide) ?_
  refine q_istore_n C [(1, .int (0 : Int32)), (0, .ref (ta 0))] dX6_allArrivals_1 (by decide) rfl ?_
  refine q_aload_n C 1 dX6_allArrivals_2 rfl ?_
  refine q_get C 0 8 dX6_allArrivals_3 rfl rfl (Nat.le_of_ble_eq_true rfl) inX6_allArrivals_X6 lkX6_allArrivals_1 rfl rfl ?_
  refine q_astore_n C [(2, .ref (ta 7)), (1, .int (0 : Int32)), (0, .ref (ta 0))] dX6_allArrivals_6 (by decide) rfl ?_
  refine q_aload_n C 0 dX6_allArrivals_7 rfl ?_
  refine q_alen C 9 7 0 dX6_allArrivals_8 rfl rfl (show Int32.ofNat 9 = 9 by decide) ?_
  refine q_istore_n C [(3, .int (9 : Int32)), (2, .ref (ta 7)), (1, .int (0 : Int32)), (0, .ref (ta 0))] dX6_allArrivals_9 (by decide) rfl ?_
  refine q_iconst C 0 dX6_allArrivals_10 (by decide) ?_
  refine q_istore C [(4, .int (0 : Int32)), (3, .int (9 : Int32)), (2, .ref (ta 7)), (1, .int (0 : Int32)), (0, .ref (ta 0))] dX6_allArrivals_11 (by decide) rfl ?_
  obtain ⟨v1_13, hL, hf⟩ := bd_e hf
  refine q_lv [(1, .int (0 : Int32)), (2, .ref (ta 7)), (3, .int (9 : Int32)), (4, .int (0 : Int32))] [3, 2, 1, 0] rfl ?_
  refine wX6_allArrivals_L13 C ta ri rs gr fm tt co le wa ar hd (9 : Int32) v1_13 ?_ 300 _ _ hL
  refine q_iload_n C 0 dX6_allArrivals_36 rfl ?_
  have hz1 := Option.some.inj hf
  clear hf
  subst hz1
  exact hret _ _ dX6_allArrivals_37 rfl

theorem lkX6_trueCount_1 : Cond.fieldLink RX6 62 "TwiceHeard$Net" "size" "I" ∈ wsX6_trueCount := List.mem_of_getElem? (i := 1) rfl
theorem lkX6_trueCount_2 : Cond.fieldLink RX6 9 "TwiceHeard$Telling" "ring" "[I" ∈ wsX6_trueCount := List.mem_of_getElem? (i := 2) rfl
theorem lkX6_trueCount_3 : Cond.fieldLink RX6 93 "TwiceHeard$Net" "heard" "[I" ∈ wsX6_trueCount := List.mem_of_getElem? (i := 3) rfl
theorem inX6_trueCount_X3 : ∀ w ∈ wsX30, w ∈ wsX6_trueCount := fun w h => List.mem_cons_of_mem _ (List.mem_append_left _ (List.mem_append_right _ h))
theorem inX6_trueCount_X6 : ∀ w ∈ wsX60, w ∈ wsX6_trueCount := fun w h => List.mem_cons_of_mem _ (List.mem_append_right _ h)
abbrev rmX6_trueCount : Room := { frames := 1, cells := 0, slots := 0, locals := 20 }
theorem hdX6_trueCount : yX6_trueCount.cls = RX6 ∧ yX6_trueCount.cls ≠ "java/lang/invoke/MethodHandle" ∧ yX6_trueCount.cls ≠ "java/lang/invoke/VarHandle" ∧ (parseMethodDescriptor yX6_trueCount.desc).map (fun d => d.parameters.length) = some 1 := by decide +kernel
def fX6_trueCount_L4 (ri : (Nat → Int32)) (sz : Int32) (he : (Nat → Int32)) : Nat → Int32 → Int32 → Option (Int32)
  | 0, _, _ => none
  | n + 1, v2, v3 =>
  if sz ≤ v3 then (
  some v2) else (
  (rdI 9 ri v3).bind fun x17 =>
  jn1 (fun (u2_31 : Int32) => 
  fX6_trueCount_L4 ri sz he n u2_31 (v3 + 1)) fun k31 =>
  if x17 = (-1 : Int32) then (
  k31 v2) else (
  (rdI 9 he v3).bind fun x28 =>
  k31 (v2 ||| x28)))
def fX6_trueCount (ri : (Nat → Int32)) (sz : Int32) (he : (Nat → Int32))  : Option (Int32) :=
  (fX6_trueCount_L4 ri sz he 300 (0 : Int32) (0 : Int32)).bind fun v2_4 =>
  (fJ6_bitCount_0f7a4 v2_4).bind fun x38 =>
  some x38
set_option maxRecDepth 100000 in
set_option maxHeartbeats 4000000 in
theorem wX6_trueCount_L4 {p : Program} {l : Launch} {e : Env} {s : State} {m : MethodId} {args : Array Value} {below : List Frame} {meth : Method} {c : Code} {Q : State → Prop} {D : va_G} {A : Nat → Prop} {cI cJ cZ cN cM : ClassId} (C : Cx p s m args c cX6_trueCount 4 RX6 wsX6_trueCount D (TYL cI cJ cZ cN cM) A) (ta : Nat → Nat) (na : Nat → Nat) (ri : (Nat → Int32)) (rs : (Nat → Int32)) (gr : Int32) (fm : (Nat → Int32)) (tt : (Nat → Int32)) (co : (Nat → Int32)) (le : Int32) (wa : (Nat → Int32)) (ar : (Nat → Int32)) (hd : (Nat → Int64)) (sz : Int32) (sa : Int32) (mo : Int32) (li : (Nat → Int32)) (lo : (Nat → Int32)) (he : (Nat → Int32))  (o2 : Int32) (kk : WW p l e rmX6_trueCount s m args below meth c Q D A 4 0 0 (List.flatten [tW cI cJ cZ cN cM ta ri rs gr fm tt co le wa ar hd, nW cI cJ cZ cN cM na sz sa mo li lo he]) [(2, .int o2)] 37 []) : ∀ (n : Nat) (v2 : Int32) (v3 : Int32), fX6_trueCount_L4 ri sz he n v2 v3 = some o2 → WW p l e rmX6_trueCount s m args below meth c Q D A 4 0 0 (List.flatten [tW cI cJ cZ cN cM ta ri rs gr fm tt co le wa ar hd, nW cI cJ cZ cN cM na sz sa mo li lo he]) [(0, .ref (ta 0)), (1, .ref (na 0)), (2, .int v2), (3, .int v3)] 4 [] := by
  intro n
  induction n with
  | zero =>
    intro v2 v3 hf
    rw [fX6_trueCount_L4] at hf
    cases hf
  | succ n ih =>
    intro v2 v3 hf
    rw [fX6_trueCount_L4] at hf
    refine q_iload_n C 3 dX6_trueCount_4 rfl ?_
    refine q_aload_n C 1 dX6_trueCount_5 rfl ?_
    refine q_get C 9 0 dX6_trueCount_6 rfl rfl (Nat.le_of_ble_eq_true rfl) inX6_trueCount_X3 lkX6_trueCount_1 rfl rfl ?_
    refine q_icmp_ge C 37 dX6_trueCount_9 (by decide) hf (fun hf => ?_) (fun hf => ?_)
    · refine q_lv [(2, .int v2)] [2] rfl ?_
      have hz1 := Option.some.inj hf
      clear hf
      subst hz1
      exact kk
    · refine q_aload_n C 0 dX6_trueCount_12 rfl ?_
      refine q_get C 0 0 dX6_trueCount_13 rfl rfl (Nat.le_of_ble_eq_true rfl) inX6_trueCount_X6 lkX6_trueCount_2 rfl rfl ?_
      refine q_iload_n C 3 dX6_trueCount_16 rfl ?_
      refine q_iald C 1 0 dX6_trueCount_17 rfl rfl hf (fun x17 hf => ?_)
      refine q_iconst C (-1) dX6_trueCount_18 (by decide) ?_
      refine jn1_e (fun (u2_31 : Int32) => WW p l e rmX6_trueCount s m args below meth c Q D A 4 0 0 (List.flatten [tW cI cJ cZ cN cM ta ri rs gr fm tt co le wa ar hd, nW cI cJ cZ cN cM na sz sa mo li lo he]) [(0, .ref (ta 0)), (1, .ref (na 0)), (2, .int u2_31), (3, .int v3)] 31 []) hf ?_ ?_
      · intro u2_31 hf
        refine q_iinc C (v3 + 1) 3 [(3, .int (v3 + 1)), (0, .ref (ta 0)), (1, .ref (na 0)), (2, .int u2_31)] dX6_trueCount_31 rfl rfl (by decide) rfl ?_
        refine q_goto C 4 dX6_trueCount_34 (by decide) ?_
        refine q_lv [(0, .ref (ta 0)), (1, .ref (na 0)), (2, .int u2_31), (3, .int (v3 + 1))] [1, 2, 3, 0] rfl ?_
        exact ih _ _ hf
      intro k31 J31 hf
      refine q_icmp_eq C 31 dX6_trueCount_19 (by decide) hf (fun hf => ?_) (fun hf => ?_)
      · exact J31 _ hf
      · refine q_iload_n C 2 dX6_trueCount_22 rfl ?_
        refine q_aload_n C 1 dX6_trueCount_23 rfl ?_
        refine q_get C 9 5 dX6_trueCount_24 rfl rfl (Nat.le_of_ble_eq_true rfl) inX6_trueCount_X3 lkX6_trueCount_3 rfl rfl ?_
        refine q_iload_n C 3 dX6_trueCount_27 rfl ?_
        refine q_iald C 12 0 dX6_trueCount_28 rfl rfl hf (fun x28 hf => ?_)
        refine q_ior C dX6_trueCount_29 ?_
        refine q_istore_n C [(2, .int (v2 ||| x28)), (0, .ref (ta 0)), (1, .ref (na 0)), (3, .int v3)] dX6_trueCount_30 (by decide) rfl ?_
        refine q_lv [(0, .ref (ta 0)), (1, .ref (na 0)), (2, .int (v2 ||| x28)), (3, .int v3)] [1, 2, 0, 3] rfl ?_
        exact J31 _ hf
set_option maxRecDepth 100000 in
set_option maxHeartbeats 4000000 in
theorem kX6_trueCount (l : Launch) (D : va_G) (cI cJ cZ cN cM : ClassId) (ta : Nat → Nat) (na : Nat → Nat) (ri : (Nat → Int32)) (rs : (Nat → Int32)) (gr : Int32) (fm : (Nat → Int32)) (tt : (Nat → Int32)) (co : (Nat → Int32)) (le : Int32) (wa : (Nat → Int32)) (ar : (Nat → Int32)) (hd : (Nat → Int64)) (sz : Int32) (sa : Int32) (mo : Int32) (li : (Nat → Int32)) (lo : (Nat → Int32)) (he : (Nat → Int32))  (r : Int32) (hf : fX6_trueCount ri sz he = some r) : MetI l yX6_trueCount wsX6_trueCount rmX6_trueCount D (TYL cI cJ cZ cN cM) [.ref (ta 0), .ref (na 0)] (List.flatten [tW cI cJ cZ cN cM ta ri rs gr fm tt co le wa ar hd, nW cI cJ cZ cN cM na sz sa mo li lo he]) (List.flatten [tW cI cJ cZ cN cM ta ri rs gr fm tt co le wa ar hd, nW cI cJ cZ cN cM na sz sa mo li lo he]) r := by
  refine MetI.mk (cc := cX6_trueCount) (maxL := 4) (own := RX6) (ty := .int) [(0, .ref (ta 0)), (1, .ref (na 0))] (by decide +kernel) rfl rfl (Nat.le_of_ble_eq_true rfl) rfl ?_
  intro p e s m args below meth c A Q C hret
  unfold fX6_trueCount at hf
  refine q_iconst C 0 dX6_trueCount_0 (by decide) ?_
  refine q_istore_n C [(2, .int (0 : Int32)), (0, .ref (ta 0)), (1, .ref (na 0))] dX6_trueCount_1 (by decide) rfl ?_
  refine q_iconst C 0 dX6_trueCount_2 (by decide) ?_
  refine q_istore_n C [(3, .int (0 : Int32)), (2, .int (0 : Int32)), (0, .ref (ta 0)), (1, .ref (na 0))] dX6_trueCount_3 (by decide) rfl ?_
  obtain ⟨v2_4, hL, hf⟩ := bd_e hf
  refine q_lv [(0, .ref (ta 0)), (1, .ref (na 0)), (2, .int (0 : Int32)), (3, .int (0 : Int32))] [2, 3, 1, 0] rfl ?_
  refine wX6_trueCount_L4 C ta na ri rs gr fm tt co le wa ar hd sz sa mo li lo he  v2_4 ?_ 300 _ _ hL
  refine q_iload_n C 0 dX6_trueCount_37 rfl ?_
  obtain ⟨x38, hM, hf⟩ := bd_e hf
  refine q_callSI C (List.flatten [tW cI cJ cZ cN cM ta ri rs gr fm tt co le wa ar hd, nW cI cJ cZ cN cM na sz sa mo li lo he]) (kJ6_bitCount_0f7a4 l D cI cJ cZ cN cM   v2_4 x38 hM) (va_cwS 1 C.1.2.2.2.2 gX6_trueCount_J6_bitCount_0f7a4 rfl rfl rfl hdJ6_bitCount_0f7a4 ⟨Nat.le_of_ble_eq_true rfl, Nat.le_of_ble_eq_true rfl⟩) FrX.none rfl rfl (Nat.le_of_ble_eq_true rfl) dX6_trueCount_38 ⟨Nat.zero_le _, Nat.zero_le _⟩ ?_
  have hz1 := Option.some.inj hf
  clear hf
  subst hz1
  exact hret _ _ dX6_trueCount_41 rfl

theorem lkX0_enter_1 : Cond.fieldLink RX0 18 "TwiceHeard$Book" "size" "I" ∈ wsX0_enter := List.mem_of_getElem? (i := 1) rfl
theorem lkX0_enter_2 : Cond.fieldLink RX0 9 "TwiceHeard$Book" "nodes" "[I" ∈ wsX0_enter := List.mem_of_getElem? (i := 2) rfl
theorem lkX0_enter_3 : Cond.fieldLink RX0 15 "TwiceHeard$Book" "guesses" "[I" ∈ wsX0_enter := List.mem_of_getElem? (i := 3) rfl
theorem inX0_enter_X0 : ∀ w ∈ wsX00, w ∈ wsX0_enter := fun w h => List.mem_cons_of_mem _ (List.mem_append_right _ h)
abbrev rmX0_enter : Room := { frames := 0, cells := 0, slots := 0, locals := 0 }
theorem hdX0_enter : yX0_enter.cls = RX0 ∧ yX0_enter.cls ≠ "java/lang/invoke/MethodHandle" ∧ yX0_enter.cls ≠ "java/lang/invoke/VarHandle" ∧ (parseMethodDescriptor yX0_enter.desc).map (fun d => d.parameters.length) = some 2 := by decide +kernel
def fX0_enter (bn : (Nat → Int32)) (bg : (Nat → Int32)) (bz : Int32) (v1 : Int32) (v2 : Int32) : Option ((Nat → Int32) × (Nat → Int32) × Int32) :=
  if bz < (20 : Int32) then (
  (wrI 20 bn bz v1).bind fun bn_19 =>
  (wrI 20 bg bz v2).bind fun bg_29 =>
  some (bn_19, bg_29, (bz + (1 : Int32)))) else (
  some (bn, bg, bz))
set_option maxRecDepth 100000 in
set_option maxHeartbeats 4000000 in
theorem kX0_enter (l : Launch) (D : va_G) (cI cJ cZ cN cM : ClassId) (ba : Nat → Nat) (bn : (Nat → Int32)) (bg : (Nat → Int32)) (bz : Int32) (v1 : Int32) (v2 : Int32) (bn_o : (Nat → Int32)) (bg_o : (Nat → Int32)) (bz_o : Int32) (hf : fX0_enter bn bg bz v1 v2 = some (bn_o, bg_o, bz_o)) : MetV l yX0_enter wsX0_enter rmX0_enter D (TYL cI cJ cZ cN cM) [.ref (ba 0), .int v1, .int v2] (bW cI cJ cZ cN cM ba bn bg bz) (bW cI cJ cZ cN cM ba bn_o bg_o bz_o) := by
  refine MetV.mk (cc := cX0_enter) (maxL := 3) (own := RX0) [(0, .ref (ba 0)), (1, .int v1), (2, .int v2)] (by decide +kernel) rfl rfl (Nat.le_of_ble_eq_true rfl) rfl ?_
  intro p e s m args below meth c A Q C hret
  unfold fX0_enter at hf
  refine q_aload_n C 0 dX0_enter_0 rfl ?_
  refine q_get C 0 2 dX0_enter_1 rfl rfl (Nat.le_of_ble_eq_true rfl) inX0_enter_X0 lkX0_enter_1 rfl rfl ?_
  refine q_bipush C 20 dX0_enter_4 (by decide) ?_
  refine q_icmp_lt C 10 dX0_enter_6 (by decide) hf (fun hf => ?_) (fun hf => ?_)
  · refine q_aload_n C 0 dX0_enter_10 rfl ?_
    refine q_get C 0 0 dX0_enter_11 rfl rfl (Nat.le_of_ble_eq_true rfl) inX0_enter_X0 lkX0_enter_2 rfl rfl ?_
    refine q_aload_n C 0 dX0_enter_14 rfl ?_
    refine q_get C 0 2 dX0_enter_15 rfl rfl (Nat.le_of_ble_eq_true rfl) inX0_enter_X0 lkX0_enter_1 rfl rfl ?_
    refine q_iload_n C 1 dX0_enter_18 rfl ?_
    refine q_iast C 1 0 (fun bn_19 => bW cI cJ cZ cN cM ba bn_19 bg bz) dX0_enter_19 rfl rfl (fun _ => rfl) hf (fun bn_19 hf => ?_)
    refine q_aload_n C 0 dX0_enter_20 rfl ?_
    refine q_get C 0 1 dX0_enter_21 rfl rfl (Nat.le_of_ble_eq_true rfl) inX0_enter_X0 lkX0_enter_3 rfl rfl ?_
    refine q_aload_n C 0 dX0_enter_24 rfl ?_
    refine q_get C 0 2 dX0_enter_25 rfl rfl (Nat.le_of_ble_eq_true rfl) inX0_enter_X0 lkX0_enter_1 rfl rfl ?_
    refine q_iload_n C 2 dX0_enter_28 rfl ?_
    refine q_iast C 2 0 (fun bg_29 => bW cI cJ cZ cN cM ba bn_19 bg_29 bz) dX0_enter_29 rfl rfl (fun _ => rfl) hf (fun bg_29 hf => ?_)
    refine q_aload_n C 0 dX0_enter_30 rfl ?_
    refine q_dup C dX0_enter_31 rfl ?_
    refine q_get C 0 2 dX0_enter_32 rfl rfl (Nat.le_of_ble_eq_true rfl) inX0_enter_X0 lkX0_enter_1 rfl rfl ?_
    refine q_iconst C 1 dX0_enter_35 (by decide) ?_
    refine q_iadd C dX0_enter_36 ?_
    refine q_put C 0 2 (bW cI cJ cZ cN cM ba bn_19 bg_29 (bz + (1 : Int32))) dX0_enter_37 rfl rfl (Nat.le_of_ble_eq_true rfl) inX0_enter_X0 tyX0 tyX0_ok nmX0 lkX0_enter_1 rfl rfl rfl rfl (Nat.le_of_ble_eq_true rfl) rfl ?_
    have hy0 := Option.some.inj hf
    clear hf
    obtain ⟨hz1, hy1⟩ := Prod.mk.inj hy0
    clear hy0
    obtain ⟨hz2, hy2⟩ := Prod.mk.inj hy1
    clear hy1
    subst hz1
    subst hz2
    subst hy2
    exact hret _ _ dX0_enter_40
  · have hy0 := Option.some.inj hf
    clear hf
    obtain ⟨hz1, hy1⟩ := Prod.mk.inj hy0
    clear hy0
    obtain ⟨hz2, hy2⟩ := Prod.mk.inj hy1
    clear hy1
    subst hz1
    subst hz2
    subst hy2
    exact hret _ _ dX0_enter_9

theorem lkX1_next_1 : Cond.fieldLink RX1 7 "TwiceHeard$Draws" "seed" "I" ∈ wsX1_next := List.mem_of_getElem? (i := 1) rfl
theorem lkX1_next_2 : Cond.constantLong RX1 13 (1103515245) ∈ wsX1_next := List.mem_of_getElem? (i := 2) rfl
theorem lkX1_next_3 : Cond.constantLong RX1 15 (12345) ∈ wsX1_next := List.mem_of_getElem? (i := 3) rfl
theorem lkX1_next_4 : Cond.constantLong RX1 17 (2147483648) ∈ wsX1_next := List.mem_of_getElem? (i := 4) rfl
theorem lkX1_next_5 : Cond.constant RX1 19 (65536) ∈ wsX1_next := List.mem_of_getElem? (i := 5) rfl
theorem inX1_next_X1 : ∀ w ∈ wsX10, w ∈ wsX1_next := fun w h => List.mem_cons_of_mem _ (List.mem_append_right _ h)
abbrev rmX1_next : Room := { frames := 0, cells := 0, slots := 0, locals := 0 }
theorem hdX1_next : yX1_next.cls = RX1 ∧ yX1_next.cls ≠ "java/lang/invoke/MethodHandle" ∧ yX1_next.cls ≠ "java/lang/invoke/VarHandle" ∧ (parseMethodDescriptor yX1_next.desc).map (fun d => d.parameters.length) = some 1 := by decide +kernel
def fX1_next (sd : Int32) (v1 : Int32) : Option (Int32 × Int32) :=
  if (1 : Int32) ≤ v1 then (
  (rmI (((((sd.toInt64 * (1103515245 : Int64)) + (12345 : Int64)) - ((sd.toInt64 * (1103515245 : Int64)) + (12345 : Int64)) / (2147483648 : Int64) * (2147483648 : Int64)).toInt32) / (65536 : Int32)) v1).bind fun x39 =>
  some (x39, (((sd.toInt64 * (1103515245 : Int64)) + (12345 : Int64)) - ((sd.toInt64 * (1103515245 : Int64)) + (12345 : Int64)) / (2147483648 : Int64) * (2147483648 : Int64)).toInt32)) else (
  some ((0 : Int32), (((sd.toInt64 * (1103515245 : Int64)) + (12345 : Int64)) - ((sd.toInt64 * (1103515245 : Int64)) + (12345 : Int64)) / (2147483648 : Int64) * (2147483648 : Int64)).toInt32))
set_option maxRecDepth 100000 in
set_option maxHeartbeats 4000000 in
theorem kX1_next (l : Launch) (D : va_G) (cI cJ cZ cN cM : ClassId) (da : Nat → Nat) (sd : Int32) (v1 : Int32) (r : Int32) (sd_o : Int32) (hf : fX1_next sd v1 = some (r, sd_o)) : MetI l yX1_next wsX1_next rmX1_next D (TYL cI cJ cZ cN cM) [.ref (da 0), .int v1] (dW cI cJ cZ cN cM da sd) (dW cI cJ cZ cN cM da sd_o) r := by
  refine MetI.mk (cc := cX1_next) (maxL := 2) (own := RX1) (ty := .int) [(0, .ref (da 0)), (1, .int v1)] (by decide +kernel) rfl rfl (Nat.le_of_ble_eq_true rfl) rfl ?_
  intro p e s m args below meth c A Q C hret
  unfold fX1_next at hf
  refine q_aload_n C 0 dX1_next_0 rfl ?_
  refine q_aload_n C 0 dX1_next_1 rfl ?_
  refine q_get C 0 0 dX1_next_2 rfl rfl (Nat.le_of_ble_eq_true rfl) inX1_next_X1 lkX1_next_1 rfl rfl ?_
  refine q_i2l C dX1_next_5 ?_
  refine q_ldc2 C dX1_next_6 lkX1_next_2 ?_
  refine q_lmul C dX1_next_9 ?_
  refine q_ldc2 C dX1_next_10 lkX1_next_3 ?_
  refine q_ladd C dX1_next_13 ?_
  refine q_ldc2 C dX1_next_14 lkX1_next_4 ?_
  refine q_lremC C dX1_next_17 (by decide) ?_
  refine q_l2i C dX1_next_18 ?_
  refine q_put C 0 0 (dW cI cJ cZ cN cM da ((((sd.toInt64 * (1103515245 : Int64)) + (12345 : Int64)) - ((sd.toInt64 * (1103515245 : Int64)) + (12345 : Int64)) / (2147483648 : Int64) * (2147483648 : Int64)).toInt32)) dX1_next_19 rfl rfl (Nat.le_of_ble_eq_true rfl) inX1_next_X1 tyX1 tyX1_ok nmX1 lkX1_next_1 rfl rfl rfl rfl (Nat.le_of_ble_eq_true rfl) rfl ?_
  refine q_iload_n C 1 dX1_next_22 rfl ?_
  refine q_iconst C 1 dX1_next_23 (by decide) ?_
  refine q_icmp_ge C 31 dX1_next_24 (by decide) hf (fun hf => ?_) (fun hf => ?_)
  · refine q_aload_n C 0 dX1_next_31 rfl ?_
    refine q_get C 0 0 dX1_next_32 rfl rfl (Nat.le_of_ble_eq_true rfl) inX1_next_X1 lkX1_next_1 rfl rfl ?_
    refine q_ldc C dX1_next_35 lkX1_next_5 ?_
    refine q_idivC C dX1_next_37 (by decide) ?_
    refine q_iload_n C 1 dX1_next_38 rfl ?_
    refine q_irem C dX1_next_39 hf (fun x39 hf => ?_)
    have hy0 := Option.some.inj hf
    clear hf
    obtain ⟨hz1, hy1⟩ := Prod.mk.inj hy0
    clear hy0
    subst hz1
    subst hy1
    exact hret _ _ dX1_next_40 rfl
  · refine q_iconst C 0 dX1_next_27 (by decide) ?_
    refine q_goto C 40 dX1_next_28 (by decide) ?_
    have hy0 := Option.some.inj hf
    clear hf
    obtain ⟨hz1, hy1⟩ := Prod.mk.inj hy0
    clear hy0
    subst hz1
    subst hy1
    exact hret _ _ dX1_next_40 rfl
