abbrev rmX8_in : Room := { frames := 0, cells := 0, slots := 0, locals := 0 }
theorem hdX8_in : yX8_in.cls ≠ "java/lang/invoke/MethodHandle" ∧ yX8_in.cls ≠ "java/lang/invoke/VarHandle" ∧ (parseMethodDescriptor yX8_in.desc).map (fun d => d.parameters.length) = some 3 := by decide +kernel
def fX8_in  (v0 : Int32) (v1 : Int32) (v2 : Int32) : Option (Int32) :=
  jn0 (
  some (0 : Int32)) fun k14 =>
  if v0 < v1 then (
  k14) else (
  if v2 < v0 then (
  k14) else (
  some (1 : Int32)))
set_option maxRecDepth 100000 in
set_option maxHeartbeats 4000000 in
theorem kX8_in (l : Launch) (D : va_G) (cI cJ cZ cN cM : ClassId)   (v0 : Int32) (v1 : Int32) (v2 : Int32) (r : Int32) (hf : fX8_in v0 v1 v2 = some r) : MetI l yX8_in wsX8_in rmX8_in D (TYL cI cJ cZ cN cM) [.int v0, .int v1, .int v2] ([]) ([]) r := by
  refine MetI.mk (cc := cX8_in) (maxL := 3) (own := RX8) (ty := .boolean) [(0, .int v0), (1, .int v1), (2, .int v2)] (by decide +kernel) rfl rfl (Nat.le_of_ble_eq_true rfl) rfl ?_
  intro p e s m args below meth c A Q C hret
  unfold fX8_in at hf
  refine q_iload_n C 0 dX8_in_0 rfl ?_
  refine q_iload_n C 1 dX8_in_1 rfl ?_
  refine jn0_e (WW p l e rmX8_in s m args below meth c Q D A 3 0 0 ([]) [] 14 []) hf ?_ ?_
  · intro hf
    refine q_iconst C 0 dX8_in_14 (by decide) ?_
    have hz1 := Option.some.inj hf
    clear hf
    subst hz1
    exact hret _ _ dX8_in_15 (by decide)
  intro k14 J14 hf
  refine q_icmp_lt C 14 dX8_in_2 (by decide) hf (fun hf => ?_) (fun hf => ?_)
  · refine q_lv [] [] rfl ?_
    exact J14  hf
  · refine q_iload_n C 0 dX8_in_5 rfl ?_
    refine q_iload_n C 2 dX8_in_6 rfl ?_
    refine q_icmp_gt C 14 dX8_in_7 (by decide) hf (fun hf => ?_) (fun hf => ?_)
    · refine q_lv [] [] rfl ?_
      exact J14  hf
    · refine q_iconst C 1 dX8_in_10 (by decide) ?_
      refine q_goto C 15 dX8_in_11 (by decide) ?_
      have hz1 := Option.some.inj hf
      clear hf
      subst hz1
      exact hret _ _ dX8_in_15 (by decide)

abbrev rmX8_has : Room := { frames := 0, cells := 0, slots := 0, locals := 0 }
theorem hdX8_has : yX8_has.cls ≠ "java/lang/invoke/MethodHandle" ∧ yX8_has.cls ≠ "java/lang/invoke/VarHandle" ∧ (parseMethodDescriptor yX8_has.desc).map (fun d => d.parameters.length) = some 2 := by decide +kernel
def fX8_has  (v0 : Int32) (v1 : Int32) : Option (Int32) :=
  if ((v0 >>> (v1 &&& 31)) &&& (1 : Int32)) = (1 : Int32) then (
  some (1 : Int32)) else (
  some (0 : Int32))
set_option maxRecDepth 100000 in
set_option maxHeartbeats 4000000 in
theorem kX8_has (l : Launch) (D : va_G) (cI cJ cZ cN cM : ClassId)   (v0 : Int32) (v1 : Int32) (r : Int32) (hf : fX8_has v0 v1 = some r) : MetI l yX8_has wsX8_has rmX8_has D (TYL cI cJ cZ cN cM) [.int v0, .int v1] ([]) ([]) r := by
  refine MetI.mk (cc := cX8_has) (maxL := 2) (own := RX8) (ty := .boolean) [(0, .int v0), (1, .int v1)] (by decide +kernel) rfl rfl (Nat.le_of_ble_eq_true rfl) rfl ?_
  intro p e s m args below meth c A Q C hret
  unfold fX8_has at hf
  refine q_iload_n C 0 dX8_has_0 rfl ?_
  refine q_iload_n C 1 dX8_has_1 rfl ?_
  refine q_ishr C dX8_has_2 ?_
  refine q_iconst C 1 dX8_has_3 (by decide) ?_
  refine q_iand C dX8_has_4 ?_
  refine q_iconst C 1 dX8_has_5 (by decide) ?_
  refine q_icmp_ne C 13 dX8_has_6 (by decide) hf (fun hf => ?_) (fun hf => ?_)
  · refine q_iconst C 0 dX8_has_13 (by decide) ?_
    have hz1 := Option.some.inj hf
    clear hf
    subst hz1
    exact hret _ _ dX8_has_14 (by decide)
  · refine q_iconst C 1 dX8_has_9 (by decide) ?_
    refine q_goto C 14 dX8_has_10 (by decide) ?_
    have hz1 := Option.some.inj hf
    clear hf
    subst hz1
    exact hret _ _ dX8_has_14 (by decide)

theorem lkX8_copyRow_1 : Cond.fieldLink RX8 9 "TwiceHeardModel" "w" "[I" ∈ wsX8_copyRow := List.mem_of_getElem? (i := 1) rfl
theorem inX8_copyRow_X8 : ∀ w ∈ wsX80, w ∈ wsX8_copyRow := fun w h => List.mem_cons_of_mem _ (List.mem_append_right _ h)
abbrev rmX8_copyRow : Room := { frames := 0, cells := 0, slots := 0, locals := 0 }
theorem hdX8_copyRow : yX8_copyRow.cls = RX8 ∧ yX8_copyRow.cls ≠ "java/lang/invoke/MethodHandle" ∧ yX8_copyRow.cls ≠ "java/lang/invoke/VarHandle" ∧ (parseMethodDescriptor yX8_copyRow.desc).map (fun d => d.parameters.length) = some 2 := by decide +kernel
def fX8_copyRow_L2 (v1 : Int32) (v2 : Int32) : Nat → Int32 → (Nat → Int32) → Option ((Nat → Int32))
  | 0, _, _ => none
  | n + 1, v3, w =>
  if (30 : Int32) ≤ v3 then (
  some w) else (
  (rdI 570 w (v1 + v3)).bind fun x22 =>
  (wrI 570 w (v2 + v3) x22).bind fun w_23 =>
  fX8_copyRow_L2 v1 v2 n (v3 + 1) w_23)
def fX8_copyRow (w : (Nat → Int32)) (v1 : Int32) (v2 : Int32) : Option ((Nat → Int32)) :=
  (fX8_copyRow_L2 v1 v2 300 (0 : Int32) w).bind fun w_2 =>
  some w_2
set_option maxRecDepth 100000 in
set_option maxHeartbeats 4000000 in
theorem wX8_copyRow_L2 {p : Program} {l : Launch} {e : Env} {s : State} {m : MethodId} {args : Array Value} {below : List Frame} {meth : Method} {c : Code} {Q : State → Prop} {D : va_G} {A : Nat → Prop} {cI cJ cZ cN cM : ClassId} (C : Cx p s m args c cX8_copyRow 4 RX8 wsX8_copyRow D (TYL cI cJ cZ cN cM) A) (a : Nat → Nat) (kn : Int32) (kp : Int32) (sd : Int32) (ks : (Nat → Int32)) (bo : (Nat → Int32)) (bi : (Nat → Int32)) (bk : Int32) (ri : (Nat → Int32)) (fm : (Nat → Int32)) (tt : (Nat → Int32)) (le : Int32) (wa : (Nat → Int32)) (hd : (Nat → Int64)) (sx : (Nat → Int32)) (b1 : (Nat → Int64)) (b2 : (Nat → Int64)) (v1 : Int32) (v2 : Int32) (w_o : (Nat → Int32)) (kk : WW p l e rmX8_copyRow s m args below meth c Q D A 4 0 0 (mW cI cJ cZ cN cM a w_o kn kp sd ks bo bi bk ri fm tt le wa hd sx b1 b2) [] 30 []) : ∀ (n : Nat) (v3 : Int32) (w : (Nat → Int32)), fX8_copyRow_L2 v1 v2 n v3 w = some w_o → WW p l e rmX8_copyRow s m args below meth c Q D A 4 0 0 (mW cI cJ cZ cN cM a w kn kp sd ks bo bi bk ri fm tt le wa hd sx b1 b2) [(0, .ref (a 0)), (1, .int v1), (2, .int v2), (3, .int v3)] 2 [] := by
  intro n
  induction n with
  | zero =>
    intro v3 w hf
    rw [fX8_copyRow_L2] at hf
    cases hf
  | succ n ih =>
    intro v3 w hf
    rw [fX8_copyRow_L2] at hf
    refine q_iload_n C 3 dX8_copyRow_2 rfl ?_
    refine q_bipush C 30 dX8_copyRow_3 (by decide) ?_
    refine q_icmp_ge C 30 dX8_copyRow_5 (by decide) hf (fun hf => ?_) (fun hf => ?_)
    · refine q_lv [] [] rfl ?_
      have hz1 := Option.some.inj hf
      clear hf
      subst hz1
      exact kk
    · refine q_aload_n C 0 dX8_copyRow_8 rfl ?_
      refine q_get C 0 0 dX8_copyRow_9 rfl rfl (Nat.le_of_ble_eq_true rfl) inX8_copyRow_X8 lkX8_copyRow_1 rfl rfl ?_
      refine q_iload_n C 2 dX8_copyRow_12 rfl ?_
      refine q_iload_n C 3 dX8_copyRow_13 rfl ?_
      refine q_iadd C dX8_copyRow_14 ?_
      refine q_aload_n C 0 dX8_copyRow_15 rfl ?_
      refine q_get C 0 0 dX8_copyRow_16 rfl rfl (Nat.le_of_ble_eq_true rfl) inX8_copyRow_X8 lkX8_copyRow_1 rfl rfl ?_
      refine q_iload_n C 1 dX8_copyRow_19 rfl ?_
      refine q_iload_n C 3 dX8_copyRow_20 rfl ?_
      refine q_iadd C dX8_copyRow_21 ?_
      refine q_iald C 1 0 dX8_copyRow_22 rfl rfl hf (fun x22 hf => ?_)
      refine q_iast C 1 0 (fun w_23 => mW cI cJ cZ cN cM a w_23 kn kp sd ks bo bi bk ri fm tt le wa hd sx b1 b2) dX8_copyRow_23 rfl rfl (fun _ => rfl) hf (fun w_23 hf => ?_)
      refine q_iinc C (v3 + 1) 3 [(3, .int (v3 + 1)), (0, .ref (a 0)), (1, .int v1), (2, .int v2)] dX8_copyRow_24 rfl rfl (by decide) rfl ?_
      refine q_goto C 2 dX8_copyRow_27 (by decide) ?_
      refine q_lv [(0, .ref (a 0)), (1, .int v1), (2, .int v2), (3, .int (v3 + 1))] [1, 2, 3, 0] rfl ?_
      exact ih _ _ hf
set_option maxRecDepth 100000 in
set_option maxHeartbeats 4000000 in
theorem kX8_copyRow (l : Launch) (D : va_G) (cI cJ cZ cN cM : ClassId) (a : Nat → Nat) (w : (Nat → Int32)) (kn : Int32) (kp : Int32) (sd : Int32) (ks : (Nat → Int32)) (bo : (Nat → Int32)) (bi : (Nat → Int32)) (bk : Int32) (ri : (Nat → Int32)) (fm : (Nat → Int32)) (tt : (Nat → Int32)) (le : Int32) (wa : (Nat → Int32)) (hd : (Nat → Int64)) (sx : (Nat → Int32)) (b1 : (Nat → Int64)) (b2 : (Nat → Int64)) (v1 : Int32) (v2 : Int32) (w_o : (Nat → Int32)) (hf : fX8_copyRow w v1 v2 = some w_o) : MetV l yX8_copyRow wsX8_copyRow rmX8_copyRow D (TYL cI cJ cZ cN cM) [.ref (a 0), .int v1, .int v2] (mW cI cJ cZ cN cM a w kn kp sd ks bo bi bk ri fm tt le wa hd sx b1 b2) (mW cI cJ cZ cN cM a w_o kn kp sd ks bo bi bk ri fm tt le wa hd sx b1 b2) := by
  refine MetV.mk (cc := cX8_copyRow) (maxL := 4) (own := RX8) [(0, .ref (a 0)), (1, .int v1), (2, .int v2)] (by decide +kernel) rfl rfl (Nat.le_of_ble_eq_true rfl) rfl ?_
  intro p e s m args below meth c A Q C hret
  unfold fX8_copyRow at hf
  refine q_iconst C 0 dX8_copyRow_0 (by decide) ?_
  refine q_istore_n C [(3, .int (0 : Int32)), (0, .ref (a 0)), (1, .int v1), (2, .int v2)] dX8_copyRow_1 (by decide) rfl ?_
  obtain ⟨w_2, hL, hf⟩ := bd_e hf
  refine q_lv [(0, .ref (a 0)), (1, .int v1), (2, .int v2), (3, .int (0 : Int32))] [1, 2, 3, 0] rfl ?_
  refine wX8_copyRow_L2 C a kn kp sd ks bo bi bk ri fm tt le wa hd sx b1 b2 v1 v2 w_2 ?_ 300 _ _ hL
  have hz1 := Option.some.inj hf
  clear hf
  subst hz1
  exact hret _ _ dX8_copyRow_30

theorem lkX8_isNode_1 : Cond.fieldLink RX8 9 "TwiceHeardModel" "w" "[I" ∈ wsX8_isNode := List.mem_of_getElem? (i := 1) rfl
theorem inX8_isNode_X8 : ∀ w ∈ wsX80, w ∈ wsX8_isNode := fun w h => List.mem_cons_of_mem _ (List.mem_append_right _ h)
abbrev rmX8_isNode : Room := { frames := 1, cells := 0, slots := 0, locals := 22 }
theorem hdX8_isNode : yX8_isNode.cls = RX8 ∧ yX8_isNode.cls ≠ "java/lang/invoke/MethodHandle" ∧ yX8_isNode.cls ≠ "java/lang/invoke/VarHandle" ∧ (parseMethodDescriptor yX8_isNode.desc).map (fun d => d.parameters.length) = some 1 := by decide +kernel
def fX8_isNode (w : (Nat → Int32)) (v1 : Int32) : Option (Int32) :=
  (fX8_in v1 (0 : Int32) ((w 0) - (1 : Int32))).bind fun x10 =>
  (gdZ x10).bind fun r13 =>
  some r13
set_option maxRecDepth 100000 in
set_option maxHeartbeats 4000000 in
theorem kX8_isNode (l : Launch) (D : va_G) (cI cJ cZ cN cM : ClassId) (a : Nat → Nat) (w : (Nat → Int32)) (kn : Int32) (kp : Int32) (sd : Int32) (ks : (Nat → Int32)) (bo : (Nat → Int32)) (bi : (Nat → Int32)) (bk : Int32) (ri : (Nat → Int32)) (fm : (Nat → Int32)) (tt : (Nat → Int32)) (le : Int32) (wa : (Nat → Int32)) (hd : (Nat → Int64)) (sx : (Nat → Int32)) (b1 : (Nat → Int64)) (b2 : (Nat → Int64)) (v1 : Int32) (r : Int32) (hf : fX8_isNode w v1 = some r) : MetI l yX8_isNode wsX8_isNode rmX8_isNode D (TYL cI cJ cZ cN cM) [.ref (a 0), .int v1] (mW cI cJ cZ cN cM a w kn kp sd ks bo bi bk ri fm tt le wa hd sx b1 b2) (mW cI cJ cZ cN cM a w kn kp sd ks bo bi bk ri fm tt le wa hd sx b1 b2) r := by
  refine MetI.mk (cc := cX8_isNode) (maxL := 2) (own := RX8) (ty := .boolean) [(0, .ref (a 0)), (1, .int v1)] (by decide +kernel) rfl rfl (Nat.le_of_ble_eq_true rfl) rfl ?_
  intro p e s m args below meth c A Q C hret
  unfold fX8_isNode at hf
  refine q_iload_n C 1 dX8_isNode_0 rfl ?_
  refine q_iconst C 0 dX8_isNode_1 (by decide) ?_
  refine q_aload_n C 0 dX8_isNode_2 rfl ?_
  refine q_get C 0 0 dX8_isNode_3 rfl rfl (Nat.le_of_ble_eq_true rfl) inX8_isNode_X8 lkX8_isNode_1 rfl rfl ?_
  refine q_iconst C 0 dX8_isNode_6 (by decide) ?_
  refine q_ialdC C 1 0 dX8_isNode_7 rfl rfl (by unfold vp_in; decide) (x := (w 0)) rfl ?_
  refine q_iconst C 1 dX8_isNode_8 (by decide) ?_
  refine q_isub C dX8_isNode_9 ?_
  obtain ⟨x10, hM, hf⟩ := bd_e hf
  refine q_callSI C (mW cI cJ cZ cN cM a w kn kp sd ks bo bi bk ri fm tt le wa hd sx b1 b2) (kX8_in l D cI cJ cZ cN cM   v1 (0 : Int32) ((w 0) - (1 : Int32)) x10 hM) (va_cwS 3 C.1.2.2.2.2 gX8_isNode_X8_in rfl rfl rfl hdX8_in ⟨Nat.le_of_ble_eq_true rfl, Nat.le_of_ble_eq_true rfl⟩) FrX.none rfl rfl (Nat.le_of_ble_eq_true rfl) dX8_isNode_10 ⟨Nat.zero_le _, Nat.zero_le _⟩ ?_
  obtain ⟨hz, hf⟩ := gdZ_e hf
  have hz1 := Option.some.inj hf
  clear hf
  subst hz1
  exact hret _ _ dX8_isNode_13 hz

theorem lkX8_isLinked_1 : Cond.fieldLink RX8 9 "TwiceHeardModel" "w" "[I" ∈ wsX8_isLinked := List.mem_of_getElem? (i := 1) rfl
theorem inX8_isLinked_X8 : ∀ w ∈ wsX80, w ∈ wsX8_isLinked := fun w h => List.mem_cons_of_mem _ (List.mem_append_right _ h)
abbrev rmX8_isLinked : Room := { frames := 2, cells := 0, slots := 0, locals := 43 }
theorem hdX8_isLinked : yX8_isLinked.cls = RX8 ∧ yX8_isLinked.cls ≠ "java/lang/invoke/MethodHandle" ∧ yX8_isLinked.cls ≠ "java/lang/invoke/VarHandle" ∧ (parseMethodDescriptor yX8_isLinked.desc).map (fun d => d.parameters.length) = some 2 := by decide +kernel
def fX8_isLinked (w : (Nat → Int32)) (v1 : Int32) (v2 : Int32) : Option (Int32) :=
  (fX8_isNode w v1).bind fun x2 =>
  jn0 (
  some (0 : Int32)) fun k35 =>
  if x2 = 0 then (
  k35) else (
  (fX8_isNode w v2).bind fun x10 =>
  if x10 = 0 then (
  k35) else (
  (rdI 570 w ((3 : Int32) + v1)).bind fun x23 =>
  (fX8_has x23 v2).bind fun x25 =>
  if x25 = 0 then (
  k35) else (
  some (1 : Int32))))
set_option maxRecDepth 100000 in
set_option maxHeartbeats 4000000 in
theorem kX8_isLinked (l : Launch) (D : va_G) (cI cJ cZ cN cM : ClassId) (a : Nat → Nat) (w : (Nat → Int32)) (kn : Int32) (kp : Int32) (sd : Int32) (ks : (Nat → Int32)) (bo : (Nat → Int32)) (bi : (Nat → Int32)) (bk : Int32) (ri : (Nat → Int32)) (fm : (Nat → Int32)) (tt : (Nat → Int32)) (le : Int32) (wa : (Nat → Int32)) (hd : (Nat → Int64)) (sx : (Nat → Int32)) (b1 : (Nat → Int64)) (b2 : (Nat → Int64)) (v1 : Int32) (v2 : Int32) (r : Int32) (hf : fX8_isLinked w v1 v2 = some r) : MetI l yX8_isLinked wsX8_isLinked rmX8_isLinked D (TYL cI cJ cZ cN cM) [.ref (a 0), .int v1, .int v2] (mW cI cJ cZ cN cM a w kn kp sd ks bo bi bk ri fm tt le wa hd sx b1 b2) (mW cI cJ cZ cN cM a w kn kp sd ks bo bi bk ri fm tt le wa hd sx b1 b2) r := by
  refine MetI.mk (cc := cX8_isLinked) (maxL := 3) (own := RX8) (ty := .boolean) [(0, .ref (a 0)), (1, .int v1), (2, .int v2)] (by decide +kernel) rfl rfl (Nat.le_of_ble_eq_true rfl) rfl ?_
  intro p e s m args below meth c A Q C hret
  unfold fX8_isLinked at hf
  refine q_aload_n C 0 dX8_isLinked_0 rfl ?_
  refine q_iload_n C 1 dX8_isLinked_1 rfl ?_
  obtain ⟨x2, hM, hf⟩ := bd_e hf
  refine q_callVI C (mW cI cJ cZ cN cM a w kn kp sd ks bo bi bk ri fm tt le wa hd sx b1 b2) (kX8_isNode l D cI cJ cZ cN cM a w kn kp sd ks bo bi bk ri fm tt le wa hd sx b1 b2 v1 x2 hM) (cwV 1 C.1.2.2.2.2 gX8_isLinked_X8_isNode rfl rfl rfl hdX8_isNode ⟨Nat.le_of_ble_eq_true rfl, Nat.le_of_ble_eq_true rfl⟩) 0 7 rfl rfl FrX.all rfl rfl (Nat.le_of_ble_eq_true rfl) dX8_isLinked_2 ⟨Nat.zero_le _, Nat.zero_le _⟩ ?_
  refine jn0_e (WW p l e rmX8_isLinked s m args below meth c Q D A 3 0 0 (mW cI cJ cZ cN cM a w kn kp sd ks bo bi bk ri fm tt le wa hd sx b1 b2) [] 35 []) hf ?_ ?_
  · intro hf
    refine q_iconst C 0 dX8_isLinked_35 (by decide) ?_
    have hz1 := Option.some.inj hf
    clear hf
    subst hz1
    exact hret _ _ dX8_isLinked_36 (by decide)
  intro k35 J35 hf
  refine q_if_eq C 35 dX8_isLinked_5 (by decide) hf (fun hf => ?_) (fun hf => ?_)
  · refine q_lv [] [] rfl ?_
    exact J35  hf
  · refine q_aload_n C 0 dX8_isLinked_8 rfl ?_
    refine q_iload_n C 2 dX8_isLinked_9 rfl ?_
    obtain ⟨x10, hM, hf⟩ := bd_e hf
    refine q_callVI C (mW cI cJ cZ cN cM a w kn kp sd ks bo bi bk ri fm tt le wa hd sx b1 b2) (kX8_isNode l D cI cJ cZ cN cM a w kn kp sd ks bo bi bk ri fm tt le wa hd sx b1 b2 v2 x10 hM) (cwV 1 C.1.2.2.2.2 gX8_isLinked_X8_isNode rfl rfl rfl hdX8_isNode ⟨Nat.le_of_ble_eq_true rfl, Nat.le_of_ble_eq_true rfl⟩) 0 7 rfl rfl FrX.all rfl rfl (Nat.le_of_ble_eq_true rfl) dX8_isLinked_10 ⟨Nat.zero_le _, Nat.zero_le _⟩ ?_
    refine q_if_eq C 35 dX8_isLinked_13 (by decide) hf (fun hf => ?_) (fun hf => ?_)
    · refine q_lv [] [] rfl ?_
      exact J35  hf
    · refine q_aload_n C 0 dX8_isLinked_16 rfl ?_
      refine q_get C 0 0 dX8_isLinked_17 rfl rfl (Nat.le_of_ble_eq_true rfl) inX8_isLinked_X8 lkX8_isLinked_1 rfl rfl ?_
      refine q_iconst C 3 dX8_isLinked_20 (by decide) ?_
      refine q_iload_n C 1 dX8_isLinked_21 rfl ?_
      refine q_iadd C dX8_isLinked_22 ?_
      refine q_iald C 1 0 dX8_isLinked_23 rfl rfl hf (fun x23 hf => ?_)
      refine q_iload_n C 2 dX8_isLinked_24 rfl ?_
      obtain ⟨x25, hM, hf⟩ := bd_e hf
      refine q_callSI C (mW cI cJ cZ cN cM a w kn kp sd ks bo bi bk ri fm tt le wa hd sx b1 b2) (kX8_has l D cI cJ cZ cN cM   x23 v2 x25 hM) (va_cwS 2 C.1.2.2.2.2 gX8_isLinked_X8_has rfl rfl rfl hdX8_has ⟨Nat.le_of_ble_eq_true rfl, Nat.le_of_ble_eq_true rfl⟩) FrX.none rfl rfl (Nat.le_of_ble_eq_true rfl) dX8_isLinked_25 ⟨Nat.zero_le _, Nat.zero_le _⟩ ?_
      refine q_if_eq C 35 dX8_isLinked_28 (by decide) hf (fun hf => ?_) (fun hf => ?_)
      · refine q_lv [] [] rfl ?_
        exact J35  hf
      · refine q_iconst C 1 dX8_isLinked_31 (by decide) ?_
        refine q_goto C 36 dX8_isLinked_32 (by decide) ?_
        have hz1 := Option.some.inj hf
        clear hf
        subst hz1
        exact hret _ _ dX8_isLinked_36 (by decide)

abbrev rmX8_ones : Room := { frames := 1, cells := 0, slots := 0, locals := 21 }
theorem hdX8_ones : yX8_ones.cls ≠ "java/lang/invoke/MethodHandle" ∧ yX8_ones.cls ≠ "java/lang/invoke/VarHandle" ∧ (parseMethodDescriptor yX8_ones.desc).map (fun d => d.parameters.length) = some 1 := by decide +kernel
def fX8_ones_L4 (v0 : Int32) : Nat → Int32 → Int32 → Option (Int32)
  | 0, _, _ => none
  | n + 1, v1, v2 =>
  if (16 : Int32) ≤ v2 then (
  some v1) else (
  (fX8_has v0 v2).bind fun x13 =>
  jn1 (fun (t0_24 : Int32) => 
  fX8_ones_L4 v0 n (v1 + t0_24) (v2 + 1)) fun k24 =>
  if x13 = 0 then (
  k24 (0 : Int32)) else (
  k24 (1 : Int32)))
def fX8_ones  (v0 : Int32) : Option (Int32) :=
  (fX8_ones_L4 v0 300 (0 : Int32) (0 : Int32)).bind fun v1_4 =>
  some v1_4
set_option maxRecDepth 100000 in
set_option maxHeartbeats 4000000 in
theorem wX8_ones_L4 {p : Program} {l : Launch} {e : Env} {s : State} {m : MethodId} {args : Array Value} {below : List Frame} {meth : Method} {c : Code} {Q : State → Prop} {D : va_G} {A : Nat → Prop} {cI cJ cZ cN cM : ClassId} (C : Cx p s m args c cX8_ones 3 RX8 wsX8_ones D (TYL cI cJ cZ cN cM) A)   (v0 : Int32) (o1 : Int32) (kk : WW p l e rmX8_ones s m args below meth c Q D A 3 0 0 ([]) [(1, .int o1)] 32 []) : ∀ (n : Nat) (v1 : Int32) (v2 : Int32), fX8_ones_L4 v0 n v1 v2 = some o1 → WW p l e rmX8_ones s m args below meth c Q D A 3 0 0 ([]) [(0, .int v0), (1, .int v1), (2, .int v2)] 4 [] := by
  intro n
  induction n with
  | zero =>
    intro v1 v2 hf
    rw [fX8_ones_L4] at hf
    cases hf
  | succ n ih =>
    intro v1 v2 hf
    rw [fX8_ones_L4] at hf
    refine q_iload_n C 2 dX8_ones_4 rfl ?_
    refine q_bipush C 16 dX8_ones_5 (by decide) ?_
    refine q_icmp_ge C 32 dX8_ones_7 (by decide) hf (fun hf => ?_) (fun hf => ?_)
    · refine q_lv [(1, .int v1)] [1] rfl ?_
      have hz1 := Option.some.inj hf
      clear hf
      subst hz1
      exact kk
    · refine q_iload_n C 1 dX8_ones_10 rfl ?_
      refine q_iload_n C 0 dX8_ones_11 rfl ?_
      refine q_iload_n C 2 dX8_ones_12 rfl ?_
      obtain ⟨x13, hM, hf⟩ := bd_e hf
      refine q_callSI C ([]) (kX8_has l D cI cJ cZ cN cM   v0 v2 x13 hM) (va_cwS 2 C.1.2.2.2.2 gX8_ones_X8_has rfl rfl rfl hdX8_has ⟨Nat.le_of_ble_eq_true rfl, Nat.le_of_ble_eq_true rfl⟩) FrX.none rfl rfl (Nat.le_of_ble_eq_true rfl) dX8_ones_13 ⟨Nat.zero_le _, Nat.zero_le _⟩ ?_
      refine jn1_e (fun (t0_24 : Int32) => WW p l e rmX8_ones s m args below meth c Q D A 3 0 0 ([]) [(0, .int v0), (2, .int v2)] 24 [.int t0_24, .int v1]) hf ?_ ?_
      · intro t0_24 hf
        refine q_iadd C dX8_ones_24 ?_
        refine q_istore_n C [(1, .int (v1 + t0_24)), (0, .int v0), (2, .int v2)] dX8_ones_25 (by decide) rfl ?_
        refine q_iinc C (v2 + 1) 2 [(2, .int (v2 + 1)), (1, .int (v1 + t0_24)), (0, .int v0)] dX8_ones_26 rfl rfl (by decide) rfl ?_
        refine q_goto C 4 dX8_ones_29 (by decide) ?_
        refine q_lv [(0, .int v0), (1, .int (v1 + t0_24)), (2, .int (v2 + 1))] [2, 1, 0] rfl ?_
        exact ih _ _ hf
      intro k24 J24 hf
      refine q_if_eq C 23 dX8_ones_16 (by decide) hf (fun hf => ?_) (fun hf => ?_)
      · refine q_iconst C 0 dX8_ones_23 (by decide) ?_
        refine q_lv [(0, .int v0), (2, .int v2)] [0, 2] rfl ?_
        exact J24 _ hf
      · refine q_iconst C 1 dX8_ones_19 (by decide) ?_
        refine q_goto C 24 dX8_ones_20 (by decide) ?_
        refine q_lv [(0, .int v0), (2, .int v2)] [0, 2] rfl ?_
        exact J24 _ hf
set_option maxRecDepth 100000 in
set_option maxHeartbeats 4000000 in
theorem kX8_ones (l : Launch) (D : va_G) (cI cJ cZ cN cM : ClassId)   (v0 : Int32) (r : Int32) (hf : fX8_ones v0 = some r) : MetI l yX8_ones wsX8_ones rmX8_ones D (TYL cI cJ cZ cN cM) [.int v0] ([]) ([]) r := by
  refine MetI.mk (cc := cX8_ones) (maxL := 3) (own := RX8) (ty := .int) [(0, .int v0)] (by decide +kernel) rfl rfl (Nat.le_of_ble_eq_true rfl) rfl ?_
  intro p e s m args below meth c A Q C hret
  unfold fX8_ones at hf
  refine q_iconst C 0 dX8_ones_0 (by decide) ?_
  refine q_istore_n C [(1, .int (0 : Int32)), (0, .int v0)] dX8_ones_1 (by decide) rfl ?_
  refine q_iconst C 0 dX8_ones_2 (by decide) ?_
  refine q_istore_n C [(2, .int (0 : Int32)), (1, .int (0 : Int32)), (0, .int v0)] dX8_ones_3 (by decide) rfl ?_
  obtain ⟨v1_4, hL, hf⟩ := bd_e hf
  refine q_lv [(0, .int v0), (1, .int (0 : Int32)), (2, .int (0 : Int32))] [2, 1, 0] rfl ?_
  refine wX8_ones_L4 C   v0 v1_4 ?_ 300 _ _ hL
  refine q_iload_n C 0 dX8_ones_32 rfl ?_
  have hz1 := Option.some.inj hf
  clear hf
  subst hz1
  exact hret _ _ dX8_ones_33 rfl

theorem lkX8_markOf_1 : Cond.constantLong RX8 59 (2) ∈ wsX8_markOf := List.mem_of_getElem? (i := 1) rfl
theorem lkX8_markOf_2 : Cond.fieldLink RX8 9 "TwiceHeardModel" "w" "[I" ∈ wsX8_markOf := List.mem_of_getElem? (i := 2) rfl
theorem lkX8_markOf_3 : Cond.constantLong RX8 61 (40503) ∈ wsX8_markOf := List.mem_of_getElem? (i := 3) rfl
theorem lkX8_markOf_4 : Cond.constantLong RX8 63 (65536) ∈ wsX8_markOf := List.mem_of_getElem? (i := 4) rfl
theorem lkX8_markOf_5 : Cond.constantLong RX8 65 (64) ∈ wsX8_markOf := List.mem_of_getElem? (i := 5) rfl
theorem inX8_markOf_X8 : ∀ w ∈ wsX80, w ∈ wsX8_markOf := fun w h => List.mem_cons_of_mem _ (List.mem_append_right _ h)
abbrev rmX8_markOf : Room := { frames := 0, cells := 0, slots := 0, locals := 0 }
theorem hdX8_markOf : yX8_markOf.cls = RX8 ∧ yX8_markOf.cls ≠ "java/lang/invoke/MethodHandle" ∧ yX8_markOf.cls ≠ "java/lang/invoke/VarHandle" ∧ (parseMethodDescriptor yX8_markOf.desc).map (fun d => d.parameters.length) = some 1 := by decide +kernel
def fX8_markOf (w : (Nat → Int32)) (v1 : Int32) : Option (Int32) :=
  some (((((((v1 + (1 : Int32)).toInt64) * (((2 : Int64) * ((w 1).toInt64)) + (1 : Int64))) * (40503 : Int64)) - ((((v1 + (1 : Int32)).toInt64) * (((2 : Int64) * ((w 1).toInt64)) + (1 : Int64))) * (40503 : Int64)) / (65536 : Int64) * (65536 : Int64)) / (64 : Int64)).toInt32)
set_option maxRecDepth 100000 in
set_option maxHeartbeats 4000000 in
theorem kX8_markOf (l : Launch) (D : va_G) (cI cJ cZ cN cM : ClassId) (a : Nat → Nat) (w : (Nat → Int32)) (kn : Int32) (kp : Int32) (sd : Int32) (ks : (Nat → Int32)) (bo : (Nat → Int32)) (bi : (Nat → Int32)) (bk : Int32) (ri : (Nat → Int32)) (fm : (Nat → Int32)) (tt : (Nat → Int32)) (le : Int32) (wa : (Nat → Int32)) (hd : (Nat → Int64)) (sx : (Nat → Int32)) (b1 : (Nat → Int64)) (b2 : (Nat → Int64)) (v1 : Int32) (r : Int32) (hf : fX8_markOf w v1 = some r) : MetI l yX8_markOf wsX8_markOf rmX8_markOf D (TYL cI cJ cZ cN cM) [.ref (a 0), .int v1] (mW cI cJ cZ cN cM a w kn kp sd ks bo bi bk ri fm tt le wa hd sx b1 b2) (mW cI cJ cZ cN cM a w kn kp sd ks bo bi bk ri fm tt le wa hd sx b1 b2) r := by
  refine MetI.mk (cc := cX8_markOf) (maxL := 4) (own := RX8) (ty := .int) [(0, .ref (a 0)), (1, .int v1)] (by decide +kernel) rfl rfl (Nat.le_of_ble_eq_true rfl) rfl ?_
  intro p e s m args below meth c A Q C hret
  unfold fX8_markOf at hf
  refine q_iload_n C 1 dX8_markOf_0 rfl ?_
  refine q_iconst C 1 dX8_markOf_1 (by decide) ?_
  refine q_iadd C dX8_markOf_2 ?_
  refine q_i2l C dX8_markOf_3 ?_
  refine q_ldc2 C dX8_markOf_4 lkX8_markOf_1 ?_
  refine q_aload_n C 0 dX8_markOf_7 rfl ?_
  refine q_get C 0 0 dX8_markOf_8 rfl rfl (Nat.le_of_ble_eq_true rfl) inX8_markOf_X8 lkX8_markOf_2 rfl rfl ?_
  refine q_iconst C 1 dX8_markOf_11 (by decide) ?_
  refine q_ialdC C 1 0 dX8_markOf_12 rfl rfl (by unfold vp_in; decide) (x := (w 1)) rfl ?_
  refine q_i2l C dX8_markOf_13 ?_
  refine q_lmul C dX8_markOf_14 ?_
  refine q_lconst C 1 dX8_markOf_15 (by decide) ?_
  refine q_ladd C dX8_markOf_16 ?_
  refine q_lmul C dX8_markOf_17 ?_
  refine q_ldc2 C dX8_markOf_18 lkX8_markOf_3 ?_
  refine q_lmul C dX8_markOf_21 ?_
  refine q_ldc2 C dX8_markOf_22 lkX8_markOf_4 ?_
  refine q_lremC C dX8_markOf_25 (by decide) ?_
  refine q_lstore_n C [(2, .long (((((v1 + (1 : Int32)).toInt64) * (((2 : Int64) * ((w 1).toInt64)) + (1 : Int64))) * (40503 : Int64)) - ((((v1 + (1 : Int32)).toInt64) * (((2 : Int64) * ((w 1).toInt64)) + (1 : Int64))) * (40503 : Int64)) / (65536 : Int64) * (65536 : Int64))), (0, .ref (a 0)), (1, .int v1)] dX8_markOf_26 (by decide) rfl ?_
  refine q_lload_n C 0 dX8_markOf_27 rfl ?_
  refine q_ldc2 C dX8_markOf_28 lkX8_markOf_5 ?_
  refine q_ldivC C dX8_markOf_31 (by decide) ?_
  refine q_l2i C dX8_markOf_32 ?_
  have hz1 := Option.some.inj hf
  clear hf
  subst hz1
  exact hret _ _ dX8_markOf_33 rfl

theorem inX8_rankOf_X8 : ∀ w ∈ wsX80, w ∈ wsX8_rankOf := fun w h => List.mem_cons_of_mem _ (List.mem_append_right _ h)
abbrev rmX8_rankOf : Room := { frames := 1, cells := 0, slots := 0, locals := 23 }
theorem hdX8_rankOf : yX8_rankOf.cls = RX8 ∧ yX8_rankOf.cls ≠ "java/lang/invoke/MethodHandle" ∧ yX8_rankOf.cls ≠ "java/lang/invoke/VarHandle" ∧ (parseMethodDescriptor yX8_rankOf.desc).map (fun d => d.parameters.length) = some 1 := by decide +kernel
def fX8_rankOf_L8  : Nat → Int32 → Int32 → Option (Int32)
  | 0, _, _ => none
  | n + 1, v2, v3 =>
  if (7 : Int32) ≤ v3 then (
  some v3) else (
  if (v2 - v2 / (2 : Int32) * (2 : Int32)) = 0 then (
  fX8_rankOf_L8 n (v2 / (2 : Int32)) (v3 + 1)) else (
  some v3))
def fX8_rankOf (w : (Nat → Int32)) (v1 : Int32) : Option (Int32) :=
  (fX8_markOf w v1).bind fun x2 =>
  (fX8_rankOf_L8  300 x2 (0 : Int32)).bind fun v3_8 =>
  some v3_8
set_option maxRecDepth 100000 in
set_option maxHeartbeats 4000000 in
theorem wX8_rankOf_L8 {p : Program} {l : Launch} {e : Env} {s : State} {m : MethodId} {args : Array Value} {below : List Frame} {meth : Method} {c : Code} {Q : State → Prop} {D : va_G} {A : Nat → Prop} {cI cJ cZ cN cM : ClassId} (C : Cx p s m args c cX8_rankOf 4 RX8 wsX8_rankOf D (TYL cI cJ cZ cN cM) A) (a : Nat → Nat) (w : (Nat → Int32)) (kn : Int32) (kp : Int32) (sd : Int32) (ks : (Nat → Int32)) (bo : (Nat → Int32)) (bi : (Nat → Int32)) (bk : Int32) (ri : (Nat → Int32)) (fm : (Nat → Int32)) (tt : (Nat → Int32)) (le : Int32) (wa : (Nat → Int32)) (hd : (Nat → Int64)) (sx : (Nat → Int32)) (b1 : (Nat → Int64)) (b2 : (Nat → Int64))  (o3 : Int32) (kk : WW p l e rmX8_rankOf s m args below meth c Q D A 4 0 0 (mW cI cJ cZ cN cM a w kn kp sd ks bo bi bk ri fm tt le wa hd sx b1 b2) [(3, .int o3)] 30 []) : ∀ (n : Nat) (v2 : Int32) (v3 : Int32), fX8_rankOf_L8  n v2 v3 = some o3 → WW p l e rmX8_rankOf s m args below meth c Q D A 4 0 0 (mW cI cJ cZ cN cM a w kn kp sd ks bo bi bk ri fm tt le wa hd sx b1 b2) [(2, .int v2), (3, .int v3)] 8 [] := by
  intro n
  induction n with
  | zero =>
    intro v2 v3 hf
    rw [fX8_rankOf_L8] at hf
    cases hf
  | succ n ih =>
    intro v2 v3 hf
    rw [fX8_rankOf_L8] at hf
    refine q_iload_n C 1 dX8_rankOf_8 rfl ?_
    refine q_bipush C 7 dX8_rankOf_9 (by decide) ?_
    refine q_icmp_ge C 30 dX8_rankOf_11 (by decide) hf (fun hf => ?_) (fun hf => ?_)
    · refine q_lv [(3, .int v3)] [1] rfl ?_
      have hz1 := Option.some.inj hf
      clear hf
      subst hz1
      exact kk
    · refine q_iload_n C 0 dX8_rankOf_14 rfl ?_
      refine q_iconst C 2 dX8_rankOf_15 (by decide) ?_
      refine q_iremC C dX8_rankOf_16 (by decide) ?_
      refine q_if_ne C 30 dX8_rankOf_17 (by decide) hf (fun hf => ?_) (fun hf => ?_)
      · refine q_lv [(3, .int v3)] [1] rfl ?_
        have hz1 := Option.some.inj hf
        clear hf
        subst hz1
        exact kk
      · refine q_iload_n C 0 dX8_rankOf_20 rfl ?_
        refine q_iconst C 2 dX8_rankOf_21 (by decide) ?_
        refine q_idivC C dX8_rankOf_22 (by decide) ?_
        refine q_istore_n C [(2, .int (v2 / (2 : Int32))), (3, .int v3)] dX8_rankOf_23 (by decide) rfl ?_
        refine q_iinc C (v3 + 1) 1 [(3, .int (v3 + 1)), (2, .int (v2 / (2 : Int32)))] dX8_rankOf_24 rfl rfl (by decide) rfl ?_
        refine q_goto C 8 dX8_rankOf_27 (by decide) ?_
        refine q_lv [(2, .int (v2 / (2 : Int32))), (3, .int (v3 + 1))] [1, 0] rfl ?_
        exact ih _ _ hf
set_option maxRecDepth 100000 in
set_option maxHeartbeats 4000000 in
theorem kX8_rankOf (l : Launch) (D : va_G) (cI cJ cZ cN cM : ClassId) (a : Nat → Nat) (w : (Nat → Int32)) (kn : Int32) (kp : Int32) (sd : Int32) (ks : (Nat → Int32)) (bo : (Nat → Int32)) (bi : (Nat → Int32)) (bk : Int32) (ri : (Nat → Int32)) (fm : (Nat → Int32)) (tt : (Nat → Int32)) (le : Int32) (wa : (Nat → Int32)) (hd : (Nat → Int64)) (sx : (Nat → Int32)) (b1 : (Nat → Int64)) (b2 : (Nat → Int64)) (v1 : Int32) (r : Int32) (hf : fX8_rankOf w v1 = some r) : MetI l yX8_rankOf wsX8_rankOf rmX8_rankOf D (TYL cI cJ cZ cN cM) [.ref (a 0), .int v1] (mW cI cJ cZ cN cM a w kn kp sd ks bo bi bk ri fm tt le wa hd sx b1 b2) (mW cI cJ cZ cN cM a w kn kp sd ks bo bi bk ri fm tt le wa hd sx b1 b2) r := by
  refine MetI.mk (cc := cX8_rankOf) (maxL := 4) (own := RX8) (ty := .int) [(0, .ref (a 0)), (1, .int v1)] (by decide +kernel) rfl rfl (Nat.le_of_ble_eq_true rfl) rfl ?_
  intro p e s m args below meth c A Q C hret
  unfold fX8_rankOf at hf
  refine q_aload_n C 0 dX8_rankOf_0 rfl ?_
  refine q_iload_n C 1 dX8_rankOf_1 rfl ?_
  obtain ⟨x2, hM, hf⟩ := bd_e hf
  refine q_callVI C (mW cI cJ cZ cN cM a w kn kp sd ks bo bi bk ri fm tt le wa hd sx b1 b2) (kX8_markOf l D cI cJ cZ cN cM a w kn kp sd ks bo bi bk ri fm tt le wa hd sx b1 b2 v1 x2 hM) (cwV 1 C.1.2.2.2.2 gX8_rankOf_X8_markOf rfl rfl rfl hdX8_markOf ⟨Nat.le_of_ble_eq_true rfl, Nat.le_of_ble_eq_true rfl⟩) 0 7 rfl rfl FrX.all rfl rfl (Nat.le_of_ble_eq_true rfl) dX8_rankOf_2 ⟨Nat.zero_le _, Nat.zero_le _⟩ ?_
  refine q_istore_n C [(2, .int x2), (0, .ref (a 0)), (1, .int v1)] dX8_rankOf_5 (by decide) rfl ?_
  refine q_iconst C 0 dX8_rankOf_6 (by decide) ?_
  refine q_istore_n C [(3, .int (0 : Int32)), (2, .int x2), (0, .ref (a 0)), (1, .int v1)] dX8_rankOf_7 (by decide) rfl ?_
  obtain ⟨v3_8, hL, hf⟩ := bd_e hf
  refine q_lv [(2, .int x2), (3, .int (0 : Int32))] [1, 0] rfl ?_
  refine wX8_rankOf_L8 C a w kn kp sd ks bo bi bk ri fm tt le wa hd sx b1 b2  v3_8 ?_ 300 _ _ hL
  refine q_iload_n C 0 dX8_rankOf_30 rfl ?_
  have hz1 := Option.some.inj hf
  clear hf
  subst hz1
  exact hret _ _ dX8_rankOf_31 rfl

theorem lkX8_spread_1 : Cond.fieldLink RX8 9 "TwiceHeardModel" "w" "[I" ∈ wsX8_spread := List.mem_of_getElem? (i := 1) rfl
theorem lkX8_spread_2 : Cond.fieldLink RX8 22 "TwiceHeardModel" "ring" "[I" ∈ wsX8_spread := List.mem_of_getElem? (i := 2) rfl
theorem inX8_spread_X8 : ∀ w ∈ wsX80, w ∈ wsX8_spread := fun w h => List.mem_cons_of_mem _ (List.mem_append_right _ h)
abbrev rmX8_spread : Room := { frames := 1, cells := 0, slots := 0, locals := 21 }
theorem hdX8_spread : yX8_spread.cls = RX8 ∧ yX8_spread.cls ≠ "java/lang/invoke/MethodHandle" ∧ yX8_spread.cls ≠ "java/lang/invoke/VarHandle" ∧ (parseMethodDescriptor yX8_spread.desc).map (fun d => d.parameters.length) = some 1 := by decide +kernel
def fX8_spread_L17 (w : (Nat → Int32)) (v1 : Int32) (v3 : Int32) : Nat → Int32 → Int32 → (Nat → Int32) → Option (Int32 × (Nat → Int32))
  | 0, _, _, _ => none
  | n + 1, v2, v4, ri =>
  if (w 0) ≤ v4 then (
  some (v2, ri)) else (
  (rdI 9 ri v3).bind fun x33 =>
  if x33 = (-1 : Int32) then (
  (rdI 570 w ((3 : Int32) + v3)).bind fun x45 =>
  (fX8_has x45 v4).bind fun x48 =>
  jn2 (fun (u2_76 : Int32) (ri_76 : (Nat → Int32)) => 
  fX8_spread_L17 w v1 v3 n u2_76 (v4 + 1) ri_76) fun k76 =>
  if x48 = 0 then (
  k76 v2 ri) else (
  (rdI 9 ri v4).bind fun x60 =>
  if x60 = v1 then (
  (wrI 9 ri v3 (v1 + (1 : Int32))).bind fun ri_73 =>
  k76 (1 : Int32) ri_73) else (
  k76 v2 ri))) else (
  some (v2, ri)))
def fX8_spread_L4 (w : (Nat → Int32)) (v1 : Int32) : Nat → Int32 → Int32 → (Nat → Int32) → Option (Int32 × (Nat → Int32))
  | 0, _, _, _ => none
  | n + 1, v2, v3, ri =>
  if (w 0) ≤ v3 then (
  some (v2, ri)) else (
  bd2 (fX8_spread_L17 w v1 v3 300 v2 (0 : Int32) ri) fun v2_17 ri_17 =>
  fX8_spread_L4 w v1 n v2_17 (v3 + 1) ri_17)
def fX8_spread (w : (Nat → Int32)) (ri : (Nat → Int32)) (v1 : Int32) : Option (Int32 × (Nat → Int32)) :=
  bd2 (fX8_spread_L4 w v1 300 (0 : Int32) (0 : Int32) ri) fun v2_4 ri_4 =>
  (gdZ v2_4).bind fun r89 =>
  some (r89, ri_4)
set_option maxRecDepth 100000 in
set_option maxHeartbeats 4000000 in
theorem wX8_spread_L17 {p : Program} {l : Launch} {e : Env} {s : State} {m : MethodId} {args : Array Value} {below : List Frame} {meth : Method} {c : Code} {Q : State → Prop} {D : va_G} {A : Nat → Prop} {cI cJ cZ cN cM : ClassId} (C : Cx p s m args c cX8_spread 5 RX8 wsX8_spread D (TYL cI cJ cZ cN cM) A) (a : Nat → Nat) (w : (Nat → Int32)) (kn : Int32) (kp : Int32) (sd : Int32) (ks : (Nat → Int32)) (bo : (Nat → Int32)) (bi : (Nat → Int32)) (bk : Int32) (fm : (Nat → Int32)) (tt : (Nat → Int32)) (le : Int32) (wa : (Nat → Int32)) (hd : (Nat → Int64)) (sx : (Nat → Int32)) (b1 : (Nat → Int64)) (b2 : (Nat → Int64)) (v1 : Int32) (v3 : Int32) (o2 : Int32) (ri_o : (Nat → Int32)) (kk : WW p l e rmX8_spread s m args below meth c Q D A 5 0 0 (mW cI cJ cZ cN cM a w kn kp sd ks bo bi bk ri_o fm tt le wa hd sx b1 b2) [(0, .ref (a 0)), (1, .int v1), (2, .int o2), (3, .int v3)] 82 []) : ∀ (n : Nat) (v2 : Int32) (v4 : Int32) (ri : (Nat → Int32)), fX8_spread_L17 w v1 v3 n v2 v4 ri = some (o2, ri_o) → WW p l e rmX8_spread s m args below meth c Q D A 5 0 0 (mW cI cJ cZ cN cM a w kn kp sd ks bo bi bk ri fm tt le wa hd sx b1 b2) [(0, .ref (a 0)), (1, .int v1), (2, .int v2), (3, .int v3), (4, .int v4)] 17 [] := by
  intro n
  induction n with
  | zero =>
    intro v2 v4 ri hf
    rw [fX8_spread_L17] at hf
    cases hf
  | succ n ih =>
    intro v2 v4 ri hf
    rw [fX8_spread_L17] at hf
    refine q_iload C 4 dX8_spread_17 rfl ?_
    refine q_aload_n C 0 dX8_spread_19 rfl ?_
    refine q_get C 0 0 dX8_spread_20 rfl rfl (Nat.le_of_ble_eq_true rfl) inX8_spread_X8 lkX8_spread_1 rfl rfl ?_
    refine q_iconst C 0 dX8_spread_23 (by decide) ?_
    refine q_ialdC C 1 0 dX8_spread_24 rfl rfl (by unfold vp_in; decide) (x := (w 0)) rfl ?_
    refine q_icmp_ge C 82 dX8_spread_25 (by decide) hf (fun hf => ?_) (fun hf => ?_)
    · refine q_lv [(0, .ref (a 0)), (1, .int v1), (2, .int v2), (3, .int v3)] [0, 1, 2, 3] rfl ?_
      have hy0 := Option.some.inj hf
      clear hf
      obtain ⟨hz1, hy1⟩ := Prod.mk.inj hy0
      clear hy0
      subst hz1
      subst hy1
      exact kk
    · refine q_aload_n C 0 dX8_spread_28 rfl ?_
      refine q_get C 0 8 dX8_spread_29 rfl rfl (Nat.le_of_ble_eq_true rfl) inX8_spread_X8 lkX8_spread_2 rfl rfl ?_
      refine q_iload_n C 3 dX8_spread_32 rfl ?_
      refine q_iald C 5 0 dX8_spread_33 rfl rfl hf (fun x33 hf => ?_)
      refine q_iconst C (-1) dX8_spread_34 (by decide) ?_
      refine q_icmp_ne C 82 dX8_spread_35 (by decide) hf (fun hf => ?_) (fun hf => ?_)
      · refine q_lv [(0, .ref (a 0)), (1, .int v1), (2, .int v2), (3, .int v3)] [0, 1, 2, 3] rfl ?_
        have hy0 := Option.some.inj hf
        clear hf
        obtain ⟨hz1, hy1⟩ := Prod.mk.inj hy0
        clear hy0
        subst hz1
        subst hy1
        exact kk
      · refine q_aload_n C 0 dX8_spread_38 rfl ?_
        refine q_get C 0 0 dX8_spread_39 rfl rfl (Nat.le_of_ble_eq_true rfl) inX8_spread_X8 lkX8_spread_1 rfl rfl ?_
        refine q_iconst C 3 dX8_spread_42 (by decide) ?_
        refine q_iload_n C 3 dX8_spread_43 rfl ?_
        refine q_iadd C dX8_spread_44 ?_
        refine q_iald C 1 0 dX8_spread_45 rfl rfl hf (fun x45 hf => ?_)
        refine q_iload C 4 dX8_spread_46 rfl ?_
        obtain ⟨x48, hM, hf⟩ := bd_e hf
        refine q_callSI C (mW cI cJ cZ cN cM a w kn kp sd ks bo bi bk ri fm tt le wa hd sx b1 b2) (kX8_has l D cI cJ cZ cN cM   x45 v4 x48 hM) (va_cwS 2 C.1.2.2.2.2 gX8_spread_X8_has rfl rfl rfl hdX8_has ⟨Nat.le_of_ble_eq_true rfl, Nat.le_of_ble_eq_true rfl⟩) FrX.none rfl rfl (Nat.le_of_ble_eq_true rfl) dX8_spread_48 ⟨Nat.zero_le _, Nat.zero_le _⟩ ?_
        refine jn2_e (fun (u2_76 : Int32) (ri_76 : (Nat → Int32)) => WW p l e rmX8_spread s m args below meth c Q D A 5 0 0 (mW cI cJ cZ cN cM a w kn kp sd ks bo bi bk ri_76 fm tt le wa hd sx b1 b2) [(0, .ref (a 0)), (1, .int v1), (2, .int u2_76), (3, .int v3), (4, .int v4)] 76 []) hf ?_ ?_
        · intro u2_76 ri_76 hf
          refine q_iinc C (v4 + 1) 4 [(4, .int (v4 + 1)), (0, .ref (a 0)), (1, .int v1), (2, .int u2_76), (3, .int v3)] dX8_spread_76 rfl rfl (by decide) rfl ?_
          refine q_goto C 17 dX8_spread_79 (by decide) ?_
          refine q_lv [(0, .ref (a 0)), (1, .int v1), (2, .int u2_76), (3, .int v3), (4, .int (v4 + 1))] [1, 2, 3, 4, 0] rfl ?_
          exact ih _ _ _ hf
        intro k76 J76 hf
        refine q_if_eq C 76 dX8_spread_51 (by decide) hf (fun hf => ?_) (fun hf => ?_)
        · exact J76 _ _ hf
        · refine q_aload_n C 0 dX8_spread_54 rfl ?_
          refine q_get C 0 8 dX8_spread_55 rfl rfl (Nat.le_of_ble_eq_true rfl) inX8_spread_X8 lkX8_spread_2 rfl rfl ?_
          refine q_iload C 4 dX8_spread_58 rfl ?_
          refine q_iald C 5 0 dX8_spread_60 rfl rfl hf (fun x60 hf => ?_)
          refine q_iload_n C 1 dX8_spread_61 rfl ?_
          refine q_icmp_ne C 76 dX8_spread_62 (by decide) hf (fun hf => ?_) (fun hf => ?_)
          · exact J76 _ _ hf
          · refine q_aload_n C 0 dX8_spread_65 rfl ?_
            refine q_get C 0 8 dX8_spread_66 rfl rfl (Nat.le_of_ble_eq_true rfl) inX8_spread_X8 lkX8_spread_2 rfl rfl ?_
            refine q_iload_n C 3 dX8_spread_69 rfl ?_
            refine q_iload_n C 1 dX8_spread_70 rfl ?_
            refine q_iconst C 1 dX8_spread_71 (by decide) ?_
            refine q_iadd C dX8_spread_72 ?_
            refine q_iast C 5 0 (fun ri_73 => mW cI cJ cZ cN cM a w kn kp sd ks bo bi bk ri_73 fm tt le wa hd sx b1 b2) dX8_spread_73 rfl rfl (fun _ => rfl) hf (fun ri_73 hf => ?_)
            refine q_iconst C 1 dX8_spread_74 (by decide) ?_
            refine q_istore_n C [(2, .int (1 : Int32)), (0, .ref (a 0)), (1, .int v1), (3, .int v3), (4, .int v4)] dX8_spread_75 (by decide) rfl ?_
            refine q_lv [(0, .ref (a 0)), (1, .int v1), (2, .int (1 : Int32)), (3, .int v3), (4, .int v4)] [1, 2, 0, 3, 4] rfl ?_
            exact J76 _ _ hf
set_option maxRecDepth 100000 in
set_option maxHeartbeats 4000000 in
theorem wX8_spread_L4 {p : Program} {l : Launch} {e : Env} {s : State} {m : MethodId} {args : Array Value} {below : List Frame} {meth : Method} {c : Code} {Q : State → Prop} {D : va_G} {A : Nat → Prop} {cI cJ cZ cN cM : ClassId} (C : Cx p s m args c cX8_spread 5 RX8 wsX8_spread D (TYL cI cJ cZ cN cM) A) (a : Nat → Nat) (w : (Nat → Int32)) (kn : Int32) (kp : Int32) (sd : Int32) (ks : (Nat → Int32)) (bo : (Nat → Int32)) (bi : (Nat → Int32)) (bk : Int32) (fm : (Nat → Int32)) (tt : (Nat → Int32)) (le : Int32) (wa : (Nat → Int32)) (hd : (Nat → Int64)) (sx : (Nat → Int32)) (b1 : (Nat → Int64)) (b2 : (Nat → Int64)) (v1 : Int32) (o2 : Int32) (ri_o : (Nat → Int32)) (kk : WW p l e rmX8_spread s m args below meth c Q D A 5 0 0 (mW cI cJ cZ cN cM a w kn kp sd ks bo bi bk ri_o fm tt le wa hd sx b1 b2) [(2, .int o2)] 88 []) : ∀ (n : Nat) (v2 : Int32) (v3 : Int32) (ri : (Nat → Int32)), fX8_spread_L4 w v1 n v2 v3 ri = some (o2, ri_o) → WW p l e rmX8_spread s m args below meth c Q D A 5 0 0 (mW cI cJ cZ cN cM a w kn kp sd ks bo bi bk ri fm tt le wa hd sx b1 b2) [(0, .ref (a 0)), (1, .int v1), (2, .int v2), (3, .int v3)] 4 [] := by
  intro n
  induction n with
  | zero =>
    intro v2 v3 ri hf
    rw [fX8_spread_L4] at hf
    cases hf
  | succ n ih =>
    intro v2 v3 ri hf
    rw [fX8_spread_L4] at hf
    refine q_iload_n C 3 dX8_spread_4 rfl ?_
    refine q_aload_n C 0 dX8_spread_5 rfl ?_
    refine q_get C 0 0 dX8_spread_6 rfl rfl (Nat.le_of_ble_eq_true rfl) inX8_spread_X8 lkX8_spread_1 rfl rfl ?_
    refine q_iconst C 0 dX8_spread_9 (by decide) ?_
    refine q_ialdC C 1 0 dX8_spread_10 rfl rfl (by unfold vp_in; decide) (x := (w 0)) rfl ?_
    refine q_icmp_ge C 88 dX8_spread_11 (by decide) hf (fun hf => ?_) (fun hf => ?_)
    · refine q_lv [(2, .int v2)] [2] rfl ?_
      have hy0 := Option.some.inj hf
      clear hf
      obtain ⟨hz1, hy1⟩ := Prod.mk.inj hy0
      clear hy0
      subst hz1
      subst hy1
      exact kk
    · refine q_iconst C 0 dX8_spread_14 (by decide) ?_
      refine q_istore C [(4, .int (0 : Int32)), (0, .ref (a 0)), (1, .int v1), (2, .int v2), (3, .int v3)] dX8_spread_15 (by decide) rfl ?_
      obtain ⟨v2_17, ri_17, hL, hf⟩ := bd2_e hf
      refine q_lv [(0, .ref (a 0)), (1, .int v1), (2, .int v2), (3, .int v3), (4, .int (0 : Int32))] [1, 2, 3, 4, 0] rfl ?_
      refine wX8_spread_L17 C a w kn kp sd ks bo bi bk fm tt le wa hd sx b1 b2 v1 v3 v2_17 ri_17 ?_ 300 _ _ _ hL
      refine q_iinc C (v3 + 1) 3 [(3, .int (v3 + 1)), (0, .ref (a 0)), (1, .int v1), (2, .int v2_17)] dX8_spread_82 rfl rfl (by decide) rfl ?_
      refine q_goto C 4 dX8_spread_85 (by decide) ?_
      refine q_lv [(0, .ref (a 0)), (1, .int v1), (2, .int v2_17), (3, .int (v3 + 1))] [1, 2, 3, 0] rfl ?_
      exact ih _ _ _ hf
set_option maxRecDepth 100000 in
set_option maxHeartbeats 4000000 in
theorem kX8_spread (l : Launch) (D : va_G) (cI cJ cZ cN cM : ClassId) (a : Nat → Nat) (w : (Nat → Int32)) (kn : Int32) (kp : Int32) (sd : Int32) (ks : (Nat → Int32)) (bo : (Nat → Int32)) (bi : (Nat → Int32)) (bk : Int32) (ri : (Nat → Int32)) (fm : (Nat → Int32)) (tt : (Nat → Int32)) (le : Int32) (wa : (Nat → Int32)) (hd : (Nat → Int64)) (sx : (Nat → Int32)) (b1 : (Nat → Int64)) (b2 : (Nat → Int64)) (v1 : Int32) (r : Int32) (ri_o : (Nat → Int32)) (hf : fX8_spread w ri v1 = some (r, ri_o)) : MetI l yX8_spread wsX8_spread rmX8_spread D (TYL cI cJ cZ cN cM) [.ref (a 0), .int v1] (mW cI cJ cZ cN cM a w kn kp sd ks bo bi bk ri fm tt le wa hd sx b1 b2) (mW cI cJ cZ cN cM a w kn kp sd ks bo bi bk ri_o fm tt le wa hd sx b1 b2) r := by
  refine MetI.mk (cc := cX8_spread) (maxL := 5) (own := RX8) (ty := .boolean) [(0, .ref (a 0)), (1, .int v1)] (by decide +kernel) rfl rfl (Nat.le_of_ble_eq_true rfl) rfl ?_
  intro p e s m args below meth c A Q C hret
  unfold fX8_spread at hf
  refine q_iconst C 0 dX8_spread_0 (by decide) ?_
  refine q_istore_n C [(2, .int (0 : Int32)), (0, .ref (a 0)), (1, .int v1)] dX8_spread_1 (by decide) rfl ?_
  refine q_iconst C 0 dX8_spread_2 (by decide) ?_
  refine q_istore_n C [(3, .int (0 : Int32)), (2, .int (0 : Int32)), (0, .ref (a 0)), (1, .int v1)] dX8_spread_3 (by decide) rfl ?_
  obtain ⟨v2_4, ri_4, hL, hf⟩ := bd2_e hf
  refine q_lv [(0, .ref (a 0)), (1, .int v1), (2, .int (0 : Int32)), (3, .int (0 : Int32))] [2, 3, 1, 0] rfl ?_
  refine wX8_spread_L4 C a w kn kp sd ks bo bi bk fm tt le wa hd sx b1 b2 v1 v2_4 ri_4 ?_ 300 _ _ _ hL
  refine q_iload_n C 0 dX8_spread_88 rfl ?_
  obtain ⟨hz, hf⟩ := gdZ_e hf
  have hy0 := Option.some.inj hf
  clear hf
  obtain ⟨hz1, hy1⟩ := Prod.mk.inj hy0
  clear hy0
  subst hz1
  subst hy1
  exact hret _ _ dX8_spread_89 hz

theorem lkX8_layRings_1 : Cond.fieldLink RX8 22 "TwiceHeardModel" "ring" "[I" ∈ wsX8_layRings := List.mem_of_getElem? (i := 1) rfl
theorem inX8_layRings_X8 : ∀ w ∈ wsX80, w ∈ wsX8_layRings := fun w h => List.mem_cons_of_mem _ (List.mem_append_right _ h)
abbrev rmX8_layRings : Room := { frames := 2, cells := 0, slots := 0, locals := 45 }
theorem hdX8_layRings : yX8_layRings.cls = RX8 ∧ yX8_layRings.cls ≠ "java/lang/invoke/MethodHandle" ∧ yX8_layRings.cls ≠ "java/lang/invoke/VarHandle" ∧ (parseMethodDescriptor yX8_layRings.desc).map (fun d => d.parameters.length) = some 0 := by decide +kernel
def fX8_layRings_L2  : Nat → Int32 → (Nat → Int32) → Option ((Nat → Int32))
  | 0, _, _ => none
  | n + 1, v1, ri =>
  if (9 : Int32) ≤ v1 then (
  some ri) else (
  (wrI 9 ri v1 (-1 : Int32)).bind fun ri_14 =>
  fX8_layRings_L2 n (v1 + 1) ri_14)
def fX8_layRings_L30 (w : (Nat → Int32)) : Nat → Int32 → (Nat → Int32) → Option ((Nat → Int32))
  | 0, _, _ => none
  | n + 1, v1, ri =>
  if (9 : Int32) ≤ v1 then (
  some ri) else (
  bd2 (fX8_spread w ri v1) fun x38 ri_38 =>
  if x38 = 0 then (
  some ri_38) else (
  fX8_layRings_L30 w n (v1 + 1) ri_38))
def fX8_layRings (w : (Nat → Int32)) (ri : (Nat → Int32))  : Option ((Nat → Int32)) :=
  (fX8_layRings_L2  300 (0 : Int32) ri).bind fun ri_2 =>
  (fX8_layRings_L30 w 300 (0 : Int32) (upd ri_2 0 (0 : Int32))).bind fun ri_30 =>
  some ri_30
set_option maxRecDepth 100000 in
set_option maxHeartbeats 4000000 in
theorem wX8_layRings_L2 {p : Program} {l : Launch} {e : Env} {s : State} {m : MethodId} {args : Array Value} {below : List Frame} {meth : Method} {c : Code} {Q : State → Prop} {D : va_G} {A : Nat → Prop} {cI cJ cZ cN cM : ClassId} (C : Cx p s m args c cX8_layRings 2 RX8 wsX8_layRings D (TYL cI cJ cZ cN cM) A) (a : Nat → Nat) (w : (Nat → Int32)) (kn : Int32) (kp : Int32) (sd : Int32) (ks : (Nat → Int32)) (bo : (Nat → Int32)) (bi : (Nat → Int32)) (bk : Int32) (fm : (Nat → Int32)) (tt : (Nat → Int32)) (le : Int32) (wa : (Nat → Int32)) (hd : (Nat → Int64)) (sx : (Nat → Int32)) (b1 : (Nat → Int64)) (b2 : (Nat → Int64))  (ri_o : (Nat → Int32)) (kk : WW p l e rmX8_layRings s m args below meth c Q D A 2 0 0 (mW cI cJ cZ cN cM a w kn kp sd ks bo bi bk ri_o fm tt le wa hd sx b1 b2) [(0, .ref (a 0))] 21 []) : ∀ (n : Nat) (v1 : Int32) (ri : (Nat → Int32)), fX8_layRings_L2  n v1 ri = some ri_o → WW p l e rmX8_layRings s m args below meth c Q D A 2 0 0 (mW cI cJ cZ cN cM a w kn kp sd ks bo bi bk ri fm tt le wa hd sx b1 b2) [(0, .ref (a 0)), (1, .int v1)] 2 [] := by
  intro n
  induction n with
  | zero =>
    intro v1 ri hf
    rw [fX8_layRings_L2] at hf
    cases hf
  | succ n ih =>
    intro v1 ri hf
    rw [fX8_layRings_L2] at hf
    refine q_iload_n C 1 dX8_layRings_2 rfl ?_
    refine q_bipush C 9 dX8_layRings_3 (by decide) ?_
    refine q_icmp_ge C 21 dX8_layRings_5 (by decide) hf (fun hf => ?_) (fun hf => ?_)
    · refine q_lv [(0, .ref (a 0))] [0] rfl ?_
      have hz1 := Option.some.inj hf
      clear hf
      subst hz1
      exact kk
    · refine q_aload_n C 0 dX8_layRings_8 rfl ?_
      refine q_get C 0 8 dX8_layRings_9 rfl rfl (Nat.le_of_ble_eq_true rfl) inX8_layRings_X8 lkX8_layRings_1 rfl rfl ?_
      refine q_iload_n C 1 dX8_layRings_12 rfl ?_
      refine q_iconst C (-1) dX8_layRings_13 (by decide) ?_
      refine q_iast C 5 0 (fun ri_14 => mW cI cJ cZ cN cM a w kn kp sd ks bo bi bk ri_14 fm tt le wa hd sx b1 b2) dX8_layRings_14 rfl rfl (fun _ => rfl) hf (fun ri_14 hf => ?_)
      refine q_iinc C (v1 + 1) 1 [(1, .int (v1 + 1)), (0, .ref (a 0))] dX8_layRings_15 rfl rfl (by decide) rfl ?_
      refine q_goto C 2 dX8_layRings_18 (by decide) ?_
      refine q_lv [(0, .ref (a 0)), (1, .int (v1 + 1))] [1, 0] rfl ?_
      exact ih _ _ hf
set_option maxRecDepth 100000 in
set_option maxHeartbeats 4000000 in
theorem wX8_layRings_L30 {p : Program} {l : Launch} {e : Env} {s : State} {m : MethodId} {args : Array Value} {below : List Frame} {meth : Method} {c : Code} {Q : State → Prop} {D : va_G} {A : Nat → Prop} {cI cJ cZ cN cM : ClassId} (C : Cx p s m args c cX8_layRings 2 RX8 wsX8_layRings D (TYL cI cJ cZ cN cM) A) (a : Nat → Nat) (w : (Nat → Int32)) (kn : Int32) (kp : Int32) (sd : Int32) (ks : (Nat → Int32)) (bo : (Nat → Int32)) (bi : (Nat → Int32)) (bk : Int32) (fm : (Nat → Int32)) (tt : (Nat → Int32)) (le : Int32) (wa : (Nat → Int32)) (hd : (Nat → Int64)) (sx : (Nat → Int32)) (b1 : (Nat → Int64)) (b2 : (Nat → Int64))  (ri_o : (Nat → Int32)) (kk : WW p l e rmX8_layRings s m args below meth c Q D A 2 0 0 (mW cI cJ cZ cN cM a w kn kp sd ks bo bi bk ri_o fm tt le wa hd sx b1 b2) [] 50 []) : ∀ (n : Nat) (v1 : Int32) (ri : (Nat → Int32)), fX8_layRings_L30 w n v1 ri = some ri_o → WW p l e rmX8_layRings s m args below meth c Q D A 2 0 0 (mW cI cJ cZ cN cM a w kn kp sd ks bo bi bk ri fm tt le wa hd sx b1 b2) [(0, .ref (a 0)), (1, .int v1)] 30 [] := by
  intro n
  induction n with
  | zero =>
    intro v1 ri hf
    rw [fX8_layRings_L30] at hf
    cases hf
  | succ n ih =>
    intro v1 ri hf
    rw [fX8_layRings_L30] at hf
    refine q_iload_n C 1 dX8_layRings_30 rfl ?_
    refine q_bipush C 9 dX8_layRings_31 (by decide) ?_
    refine q_icmp_ge C 50 dX8_layRings_33 (by decide) hf (fun hf => ?_) (fun hf => ?_)
    · refine q_lv [] [] rfl ?_
      have hz1 := Option.some.inj hf
      clear hf
      subst hz1
      exact kk
    · refine q_aload_n C 0 dX8_layRings_36 rfl ?_
      refine q_iload_n C 1 dX8_layRings_37 rfl ?_
      obtain ⟨x38, ri_38, hM, hf⟩ := bd2_e hf
      refine q_callVI C (mW cI cJ cZ cN cM a w kn kp sd ks bo bi bk ri_38 fm tt le wa hd sx b1 b2) (kX8_spread l D cI cJ cZ cN cM a w kn kp sd ks bo bi bk ri fm tt le wa hd sx b1 b2 v1 x38 ri_38 hM) (cwV 1 C.1.2.2.2.2 gX8_layRings_X8_spread rfl rfl rfl hdX8_spread ⟨Nat.le_of_ble_eq_true rfl, Nat.le_of_ble_eq_true rfl⟩) 0 7 rfl rfl FrX.all rfl rfl (Nat.le_of_ble_eq_true rfl) dX8_layRings_38 ⟨Nat.zero_le _, Nat.zero_le _⟩ ?_
      refine q_if_eq C 50 dX8_layRings_41 (by decide) hf (fun hf => ?_) (fun hf => ?_)
      · refine q_lv [] [] rfl ?_
        have hz1 := Option.some.inj hf
        clear hf
        subst hz1
        exact kk
      · refine q_iinc C (v1 + 1) 1 [(1, .int (v1 + 1)), (0, .ref (a 0))] dX8_layRings_44 rfl rfl (by decide) rfl ?_
        refine q_goto C 30 dX8_layRings_47 (by decide) ?_
        refine q_lv [(0, .ref (a 0)), (1, .int (v1 + 1))] [1, 0] rfl ?_
        exact ih _ _ hf
set_option maxRecDepth 100000 in
set_option maxHeartbeats 4000000 in
theorem kX8_layRings (l : Launch) (D : va_G) (cI cJ cZ cN cM : ClassId) (a : Nat → Nat) (w : (Nat → Int32)) (kn : Int32) (kp : Int32) (sd : Int32) (ks : (Nat → Int32)) (bo : (Nat → Int32)) (bi : (Nat → Int32)) (bk : Int32) (ri : (Nat → Int32)) (fm : (Nat → Int32)) (tt : (Nat → Int32)) (le : Int32) (wa : (Nat → Int32)) (hd : (Nat → Int64)) (sx : (Nat → Int32)) (b1 : (Nat → Int64)) (b2 : (Nat → Int64))  (ri_o : (Nat → Int32)) (hf : fX8_layRings w ri = some ri_o) : MetV l yX8_layRings wsX8_layRings rmX8_layRings D (TYL cI cJ cZ cN cM) [.ref (a 0)] (mW cI cJ cZ cN cM a w kn kp sd ks bo bi bk ri fm tt le wa hd sx b1 b2) (mW cI cJ cZ cN cM a w kn kp sd ks bo bi bk ri_o fm tt le wa hd sx b1 b2) := by
  refine MetV.mk (cc := cX8_layRings) (maxL := 2) (own := RX8) [(0, .ref (a 0))] (by decide +kernel) rfl rfl (Nat.le_of_ble_eq_true rfl) rfl ?_
  intro p e s m args below meth c A Q C hret
  unfold fX8_layRings at hf
  refine q_iconst C 0 dX8_layRings_0 (by decide) ?_
  refine q_istore_n C [(1, .int (0 : Int32)), (0, .ref (a 0))] dX8_layRings_1 (by decide) rfl ?_
  obtain ⟨ri_2, hL, hf⟩ := bd_e hf
  refine q_lv [(0, .ref (a 0)), (1, .int (0 : Int32))] [1, 0] rfl ?_
  refine wX8_layRings_L2 C a w kn kp sd ks bo bi bk fm tt le wa hd sx b1 b2  ri_2 ?_ 300 _ _ hL
  refine q_aload_n C 0 dX8_layRings_21 rfl ?_
  refine q_get C 0 8 dX8_layRings_22 rfl rfl (Nat.le_of_ble_eq_true rfl) inX8_layRings_X8 lkX8_layRings_1 rfl rfl ?_
  refine q_iconst C 0 dX8_layRings_25 (by decide) ?_
  refine q_iconst C 0 dX8_layRings_26 (by decide) ?_
  refine q_iastC C 5 0 (mW cI cJ cZ cN cM a w kn kp sd ks bo bi bk (upd ri_2 0 (0 : Int32)) fm tt le wa hd sx b1 b2) dX8_layRings_27 rfl rfl (by unfold vp_in; decide) rfl ?_
  refine q_iconst C 0 dX8_layRings_28 (by decide) ?_
  refine q_istore_n C [(1, .int (0 : Int32)), (0, .ref (a 0))] dX8_layRings_29 (by decide) rfl ?_
  obtain ⟨ri_30, hL, hf⟩ := bd_e hf
  refine q_lv [(0, .ref (a 0)), (1, .int (0 : Int32))] [1, 0] rfl ?_
  refine wX8_layRings_L30 C a w kn kp sd ks bo bi bk fm tt le wa hd sx b1 b2  ri_30 ?_ 300 _ _ hL
  have hz1 := Option.some.inj hf
  clear hf
  subst hz1
  exact hret _ _ dX8_layRings_50

theorem lkX8_upper_1 : Cond.fieldLink RX8 9 "TwiceHeardModel" "w" "[I" ∈ wsX8_upper := List.mem_of_getElem? (i := 1) rfl
theorem lkX8_upper_2 : Cond.fieldLink RX8 22 "TwiceHeardModel" "ring" "[I" ∈ wsX8_upper := List.mem_of_getElem? (i := 2) rfl
theorem inX8_upper_X8 : ∀ w ∈ wsX80, w ∈ wsX8_upper := fun w h => List.mem_cons_of_mem _ (List.mem_append_right _ h)
abbrev rmX8_upper : Room := { frames := 1, cells := 0, slots := 0, locals := 21 }
theorem hdX8_upper : yX8_upper.cls = RX8 ∧ yX8_upper.cls ≠ "java/lang/invoke/MethodHandle" ∧ yX8_upper.cls ≠ "java/lang/invoke/VarHandle" ∧ (parseMethodDescriptor yX8_upper.desc).map (fun d => d.parameters.length) = some 1 := by decide +kernel
def fX8_upper_L4 (w : (Nat → Int32)) (ri : (Nat → Int32)) (v1 : Int32) : Nat → Int32 → Int32 → Option (Int32)
  | 0, _, _ => none
  | n + 1, v2, v3 =>
  if (w 0) ≤ v3 then (
  some v2) else (
  (rdI 9 ri v1).bind fun x20 =>
  jn1 (fun (t0_63 : Int32) => 
  fX8_upper_L4 w ri v1 n (v2 ||| t0_63) (v3 + 1)) fun k63 =>
  jn0 (
  k63 (0 : Int32)) fun k62 =>
  if x20 ≤ 0 then (
  k62) else (
  (rdI 570 w ((3 : Int32) + v1)).bind fun x31 =>
  (fX8_has x31 v3).bind fun x33 =>
  if x33 = 0 then (
  k62) else (
  (rdI 9 ri v3).bind fun x44 =>
  (rdI 9 ri v1).bind fun x50 =>
  if x44 = (x50 - (1 : Int32)) then (
  k63 ((1 : Int32) <<< (v3 &&& 31))) else (
  k62))))
def fX8_upper (w : (Nat → Int32)) (ri : (Nat → Int32)) (v1 : Int32) : Option (Int32) :=
  (fX8_upper_L4 w ri v1 300 (0 : Int32) (0 : Int32)).bind fun v2_4 =>
  some v2_4
set_option maxRecDepth 100000 in
set_option maxHeartbeats 4000000 in
theorem wX8_upper_L4 {p : Program} {l : Launch} {e : Env} {s : State} {m : MethodId} {args : Array Value} {below : List Frame} {meth : Method} {c : Code} {Q : State → Prop} {D : va_G} {A : Nat → Prop} {cI cJ cZ cN cM : ClassId} (C : Cx p s m args c cX8_upper 4 RX8 wsX8_upper D (TYL cI cJ cZ cN cM) A) (a : Nat → Nat) (w : (Nat → Int32)) (kn : Int32) (kp : Int32) (sd : Int32) (ks : (Nat → Int32)) (bo : (Nat → Int32)) (bi : (Nat → Int32)) (bk : Int32) (ri : (Nat → Int32)) (fm : (Nat → Int32)) (tt : (Nat → Int32)) (le : Int32) (wa : (Nat → Int32)) (hd : (Nat → Int64)) (sx : (Nat → Int32)) (b1 : (Nat → Int64)) (b2 : (Nat → Int64)) (v1 : Int32) (o2 : Int32) (kk : WW p l e rmX8_upper s m args below meth c Q D A 4 0 0 (mW cI cJ cZ cN cM a w kn kp sd ks bo bi bk ri fm tt le wa hd sx b1 b2) [(2, .int o2)] 71 []) : ∀ (n : Nat) (v2 : Int32) (v3 : Int32), fX8_upper_L4 w ri v1 n v2 v3 = some o2 → WW p l e rmX8_upper s m args below meth c Q D A 4 0 0 (mW cI cJ cZ cN cM a w kn kp sd ks bo bi bk ri fm tt le wa hd sx b1 b2) [(0, .ref (a 0)), (1, .int v1), (2, .int v2), (3, .int v3)] 4 [] := by
  intro n
  induction n with
  | zero =>
    intro v2 v3 hf
    rw [fX8_upper_L4] at hf
    cases hf
  | succ n ih =>
    intro v2 v3 hf
    rw [fX8_upper_L4] at hf
    refine q_iload_n C 3 dX8_upper_4 rfl ?_
    refine q_aload_n C 0 dX8_upper_5 rfl ?_
    refine q_get C 0 0 dX8_upper_6 rfl rfl (Nat.le_of_ble_eq_true rfl) inX8_upper_X8 lkX8_upper_1 rfl rfl ?_
    refine q_iconst C 0 dX8_upper_9 (by decide) ?_
    refine q_ialdC C 1 0 dX8_upper_10 rfl rfl (by unfold vp_in; decide) (x := (w 0)) rfl ?_
    refine q_icmp_ge C 71 dX8_upper_11 (by decide) hf (fun hf => ?_) (fun hf => ?_)
    · refine q_lv [(2, .int v2)] [2] rfl ?_
      have hz1 := Option.some.inj hf
      clear hf
      subst hz1
      exact kk
    · refine q_iload_n C 2 dX8_upper_14 rfl ?_
      refine q_aload_n C 0 dX8_upper_15 rfl ?_
      refine q_get C 0 8 dX8_upper_16 rfl rfl (Nat.le_of_ble_eq_true rfl) inX8_upper_X8 lkX8_upper_2 rfl rfl ?_
      refine q_iload_n C 1 dX8_upper_19 rfl ?_
      refine q_iald C 5 0 dX8_upper_20 rfl rfl hf (fun x20 hf => ?_)
      refine jn1_e (fun (t0_63 : Int32) => WW p l e rmX8_upper s m args below meth c Q D A 4 0 0 (mW cI cJ cZ cN cM a w kn kp sd ks bo bi bk ri fm tt le wa hd sx b1 b2) [(0, .ref (a 0)), (1, .int v1), (3, .int v3)] 63 [.int t0_63, .int v2]) hf ?_ ?_
      · intro t0_63 hf
        refine q_ior C dX8_upper_63 ?_
        refine q_istore_n C [(2, .int (v2 ||| t0_63)), (0, .ref (a 0)), (1, .int v1), (3, .int v3)] dX8_upper_64 (by decide) rfl ?_
        refine q_iinc C (v3 + 1) 3 [(3, .int (v3 + 1)), (2, .int (v2 ||| t0_63)), (0, .ref (a 0)), (1, .int v1)] dX8_upper_65 rfl rfl (by decide) rfl ?_
        refine q_goto C 4 dX8_upper_68 (by decide) ?_
        refine q_lv [(0, .ref (a 0)), (1, .int v1), (2, .int (v2 ||| t0_63)), (3, .int (v3 + 1))] [2, 3, 1, 0] rfl ?_
        exact ih _ _ hf
      intro k63 J63 hf
      refine jn0_e (WW p l e rmX8_upper s m args below meth c Q D A 4 0 0 (mW cI cJ cZ cN cM a w kn kp sd ks bo bi bk ri fm tt le wa hd sx b1 b2) [(0, .ref (a 0)), (1, .int v1), (3, .int v3)] 62 [.int v2]) hf ?_ ?_
      · intro hf
        refine q_iconst C 0 dX8_upper_62 (by decide) ?_
        exact J63 _ hf
      intro k62 J62 hf
      refine q_if_le C 62 dX8_upper_21 (by decide) hf (fun hf => ?_) (fun hf => ?_)
      · refine q_lv [(0, .ref (a 0)), (1, .int v1), (3, .int v3)] [0, 1, 3] rfl ?_
        exact J62  hf
      · refine q_aload_n C 0 dX8_upper_24 rfl ?_
        refine q_get C 0 0 dX8_upper_25 rfl rfl (Nat.le_of_ble_eq_true rfl) inX8_upper_X8 lkX8_upper_1 rfl rfl ?_
        refine q_iconst C 3 dX8_upper_28 (by decide) ?_
        refine q_iload_n C 1 dX8_upper_29 rfl ?_
        refine q_iadd C dX8_upper_30 ?_
        refine q_iald C 1 0 dX8_upper_31 rfl rfl hf (fun x31 hf => ?_)
        refine q_iload_n C 3 dX8_upper_32 rfl ?_
        obtain ⟨x33, hM, hf⟩ := bd_e hf
        refine q_callSI C (mW cI cJ cZ cN cM a w kn kp sd ks bo bi bk ri fm tt le wa hd sx b1 b2) (kX8_has l D cI cJ cZ cN cM   x31 v3 x33 hM) (va_cwS 2 C.1.2.2.2.2 gX8_upper_X8_has rfl rfl rfl hdX8_has ⟨Nat.le_of_ble_eq_true rfl, Nat.le_of_ble_eq_true rfl⟩) FrX.none rfl rfl (Nat.le_of_ble_eq_true rfl) dX8_upper_33 ⟨Nat.zero_le _, Nat.zero_le _⟩ ?_
        refine q_if_eq C 62 dX8_upper_36 (by decide) hf (fun hf => ?_) (fun hf => ?_)
        · refine q_lv [(0, .ref (a 0)), (1, .int v1), (3, .int v3)] [0, 1, 3] rfl ?_
          exact J62  hf
        · refine q_aload_n C 0 dX8_upper_39 rfl ?_
          refine q_get C 0 8 dX8_upper_40 rfl rfl (Nat.le_of_ble_eq_true rfl) inX8_upper_X8 lkX8_upper_2 rfl rfl ?_
          refine q_iload_n C 3 dX8_upper_43 rfl ?_
          refine q_iald C 5 0 dX8_upper_44 rfl rfl hf (fun x44 hf => ?_)
          refine q_aload_n C 0 dX8_upper_45 rfl ?_
          refine q_get C 0 8 dX8_upper_46 rfl rfl (Nat.le_of_ble_eq_true rfl) inX8_upper_X8 lkX8_upper_2 rfl rfl ?_
          refine q_iload_n C 1 dX8_upper_49 rfl ?_
          refine q_iald C 5 0 dX8_upper_50 rfl rfl hf (fun x50 hf => ?_)
          refine q_iconst C 1 dX8_upper_51 (by decide) ?_
          refine q_isub C dX8_upper_52 ?_
          refine q_icmp_ne C 62 dX8_upper_53 (by decide) hf (fun hf => ?_) (fun hf => ?_)
          · refine q_lv [(0, .ref (a 0)), (1, .int v1), (3, .int v3)] [0, 1, 3] rfl ?_
            exact J62  hf
          · refine q_iconst C 1 dX8_upper_56 (by decide) ?_
            refine q_iload_n C 3 dX8_upper_57 rfl ?_
            refine q_ishl C dX8_upper_58 ?_
            refine q_goto C 63 dX8_upper_59 (by decide) ?_
            refine q_lv [(0, .ref (a 0)), (1, .int v1), (3, .int v3)] [0, 1, 3] rfl ?_
            exact J63 _ hf
set_option maxRecDepth 100000 in
set_option maxHeartbeats 4000000 in
theorem kX8_upper (l : Launch) (D : va_G) (cI cJ cZ cN cM : ClassId) (a : Nat → Nat) (w : (Nat → Int32)) (kn : Int32) (kp : Int32) (sd : Int32) (ks : (Nat → Int32)) (bo : (Nat → Int32)) (bi : (Nat → Int32)) (bk : Int32) (ri : (Nat → Int32)) (fm : (Nat → Int32)) (tt : (Nat → Int32)) (le : Int32) (wa : (Nat → Int32)) (hd : (Nat → Int64)) (sx : (Nat → Int32)) (b1 : (Nat → Int64)) (b2 : (Nat → Int64)) (v1 : Int32) (r : Int32) (hf : fX8_upper w ri v1 = some r) : MetI l yX8_upper wsX8_upper rmX8_upper D (TYL cI cJ cZ cN cM) [.ref (a 0), .int v1] (mW cI cJ cZ cN cM a w kn kp sd ks bo bi bk ri fm tt le wa hd sx b1 b2) (mW cI cJ cZ cN cM a w kn kp sd ks bo bi bk ri fm tt le wa hd sx b1 b2) r := by
  refine MetI.mk (cc := cX8_upper) (maxL := 4) (own := RX8) (ty := .int) [(0, .ref (a 0)), (1, .int v1)] (by decide +kernel) rfl rfl (Nat.le_of_ble_eq_true rfl) rfl ?_
  intro p e s m args below meth c A Q C hret
  unfold fX8_upper at hf
  refine q_iconst C 0 dX8_upper_0 (by decide) ?_
  refine q_istore_n C [(2, .int (0 : Int32)), (0, .ref (a 0)), (1, .int v1)] dX8_upper_1 (by decide) rfl ?_
  refine q_iconst C 0 dX8_upper_2 (by decide) ?_
  refine q_istore_n C [(3, .int (0 : Int32)), (2, .int (0 : Int32)), (0, .ref (a 0)), (1, .int v1)] dX8_upper_3 (by decide) rfl ?_
  obtain ⟨v2_4, hL, hf⟩ := bd_e hf
  refine q_lv [(0, .ref (a 0)), (1, .int v1), (2, .int (0 : Int32)), (3, .int (0 : Int32))] [2, 3, 1, 0] rfl ?_
  refine wX8_upper_L4 C a w kn kp sd ks bo bi bk ri fm tt le wa hd sx b1 b2 v1 v2_4 ?_ 300 _ _ hL
  refine q_iload_n C 0 dX8_upper_71 rfl ?_
  have hz1 := Option.some.inj hf
  clear hf
  subst hz1
  exact hret _ _ dX8_upper_72 rfl

theorem lkX8_greatestRing_1 : Cond.fieldLink RX8 9 "TwiceHeardModel" "w" "[I" ∈ wsX8_greatestRing := List.mem_of_getElem? (i := 1) rfl
theorem lkX8_greatestRing_2 : Cond.fieldLink RX8 22 "TwiceHeardModel" "ring" "[I" ∈ wsX8_greatestRing := List.mem_of_getElem? (i := 2) rfl
theorem inX8_greatestRing_X8 : ∀ w ∈ wsX80, w ∈ wsX8_greatestRing := fun w h => List.mem_cons_of_mem _ (List.mem_append_right _ h)
abbrev rmX8_greatestRing : Room := { frames := 0, cells := 0, slots := 0, locals := 0 }
theorem hdX8_greatestRing : yX8_greatestRing.cls = RX8 ∧ yX8_greatestRing.cls ≠ "java/lang/invoke/MethodHandle" ∧ yX8_greatestRing.cls ≠ "java/lang/invoke/VarHandle" ∧ (parseMethodDescriptor yX8_greatestRing.desc).map (fun d => d.parameters.length) = some 0 := by decide +kernel
def fX8_greatestRing_L4 (w : (Nat → Int32)) (ri : (Nat → Int32)) : Nat → Int32 → Int32 → Option (Int32)
  | 0, _, _ => none
  | n + 1, v1, v2 =>
  if (w 0) ≤ v2 then (
  some v1) else (
  (rdI 9 ri v2).bind fun x19 =>
  jn1 (fun (t0_34 : Int32) => 
  fX8_greatestRing_L4 w ri n t0_34 (v2 + 1)) fun k34 =>
  if x19 ≤ v1 then (
  k34 v1) else (
  (rdI 9 ri v2).bind fun x29 =>
  k34 x29))
def fX8_greatestRing (w : (Nat → Int32)) (ri : (Nat → Int32))  : Option (Int32) :=
  (fX8_greatestRing_L4 w ri 300 (0 : Int32) (0 : Int32)).bind fun v1_4 =>
  some v1_4
set_option maxRecDepth 100000 in
set_option maxHeartbeats 4000000 in
theorem wX8_greatestRing_L4 {p : Program} {l : Launch} {e : Env} {s : State} {m : MethodId} {args : Array Value} {below : List Frame} {meth : Method} {c : Code} {Q : State → Prop} {D : va_G} {A : Nat → Prop} {cI cJ cZ cN cM : ClassId} (C : Cx p s m args c cX8_greatestRing 3 RX8 wsX8_greatestRing D (TYL cI cJ cZ cN cM) A) (a : Nat → Nat) (w : (Nat → Int32)) (kn : Int32) (kp : Int32) (sd : Int32) (ks : (Nat → Int32)) (bo : (Nat → Int32)) (bi : (Nat → Int32)) (bk : Int32) (ri : (Nat → Int32)) (fm : (Nat → Int32)) (tt : (Nat → Int32)) (le : Int32) (wa : (Nat → Int32)) (hd : (Nat → Int64)) (sx : (Nat → Int32)) (b1 : (Nat → Int64)) (b2 : (Nat → Int64))  (o1 : Int32) (kk : WW p l e rmX8_greatestRing s m args below meth c Q D A 3 0 0 (mW cI cJ cZ cN cM a w kn kp sd ks bo bi bk ri fm tt le wa hd sx b1 b2) [(1, .int o1)] 41 []) : ∀ (n : Nat) (v1 : Int32) (v2 : Int32), fX8_greatestRing_L4 w ri n v1 v2 = some o1 → WW p l e rmX8_greatestRing s m args below meth c Q D A 3 0 0 (mW cI cJ cZ cN cM a w kn kp sd ks bo bi bk ri fm tt le wa hd sx b1 b2) [(0, .ref (a 0)), (1, .int v1), (2, .int v2)] 4 [] := by
  intro n
  induction n with
  | zero =>
    intro v1 v2 hf
    rw [fX8_greatestRing_L4] at hf
    cases hf
  | succ n ih =>
    intro v1 v2 hf
    rw [fX8_greatestRing_L4] at hf
    refine q_iload_n C 2 dX8_greatestRing_4 rfl ?_
    refine q_aload_n C 0 dX8_greatestRing_5 rfl ?_
    refine q_get C 0 0 dX8_greatestRing_6 rfl rfl (Nat.le_of_ble_eq_true rfl) inX8_greatestRing_X8 lkX8_greatestRing_1 rfl rfl ?_
    refine q_iconst C 0 dX8_greatestRing_9 (by decide) ?_
    refine q_ialdC C 1 0 dX8_greatestRing_10 rfl rfl (by unfold vp_in; decide) (x := (w 0)) rfl ?_
    refine q_icmp_ge C 41 dX8_greatestRing_11 (by decide) hf (fun hf => ?_) (fun hf => ?_)
    · refine q_lv [(1, .int v1)] [1] rfl ?_
      have hz1 := Option.some.inj hf
      clear hf
      subst hz1
      exact kk
    · refine q_aload_n C 0 dX8_greatestRing_14 rfl ?_
      refine q_get C 0 8 dX8_greatestRing_15 rfl rfl (Nat.le_of_ble_eq_true rfl) inX8_greatestRing_X8 lkX8_greatestRing_2 rfl rfl ?_
      refine q_iload_n C 2 dX8_greatestRing_18 rfl ?_
      refine q_iald C 5 0 dX8_greatestRing_19 rfl rfl hf (fun x19 hf => ?_)
      refine q_iload_n C 1 dX8_greatestRing_20 rfl ?_
      refine jn1_e (fun (t0_34 : Int32) => WW p l e rmX8_greatestRing s m args below meth c Q D A 3 0 0 (mW cI cJ cZ cN cM a w kn kp sd ks bo bi bk ri fm tt le wa hd sx b1 b2) [(0, .ref (a 0)), (2, .int v2)] 34 [.int t0_34]) hf ?_ ?_
      · intro t0_34 hf
        refine q_istore_n C [(1, .int t0_34), (0, .ref (a 0)), (2, .int v2)] dX8_greatestRing_34 (by decide) rfl ?_
        refine q_iinc C (v2 + 1) 2 [(2, .int (v2 + 1)), (1, .int t0_34), (0, .ref (a 0))] dX8_greatestRing_35 rfl rfl (by decide) rfl ?_
        refine q_goto C 4 dX8_greatestRing_38 (by decide) ?_
        refine q_lv [(0, .ref (a 0)), (1, .int t0_34), (2, .int (v2 + 1))] [2, 1, 0] rfl ?_
        exact ih _ _ hf
      intro k34 J34 hf
      refine q_icmp_le C 33 dX8_greatestRing_21 (by decide) hf (fun hf => ?_) (fun hf => ?_)
      · refine q_iload_n C 1 dX8_greatestRing_33 rfl ?_
        refine q_lv [(0, .ref (a 0)), (2, .int v2)] [0, 2] rfl ?_
        exact J34 _ hf
      · refine q_aload_n C 0 dX8_greatestRing_24 rfl ?_
        refine q_get C 0 8 dX8_greatestRing_25 rfl rfl (Nat.le_of_ble_eq_true rfl) inX8_greatestRing_X8 lkX8_greatestRing_2 rfl rfl ?_
        refine q_iload_n C 2 dX8_greatestRing_28 rfl ?_
        refine q_iald C 5 0 dX8_greatestRing_29 rfl rfl hf (fun x29 hf => ?_)
        refine q_goto C 34 dX8_greatestRing_30 (by decide) ?_
        refine q_lv [(0, .ref (a 0)), (2, .int v2)] [0, 2] rfl ?_
        exact J34 _ hf
set_option maxRecDepth 100000 in
set_option maxHeartbeats 4000000 in
theorem kX8_greatestRing (l : Launch) (D : va_G) (cI cJ cZ cN cM : ClassId) (a : Nat → Nat) (w : (Nat → Int32)) (kn : Int32) (kp : Int32) (sd : Int32) (ks : (Nat → Int32)) (bo : (Nat → Int32)) (bi : (Nat → Int32)) (bk : Int32) (ri : (Nat → Int32)) (fm : (Nat → Int32)) (tt : (Nat → Int32)) (le : Int32) (wa : (Nat → Int32)) (hd : (Nat → Int64)) (sx : (Nat → Int32)) (b1 : (Nat → Int64)) (b2 : (Nat → Int64))  (r : Int32) (hf : fX8_greatestRing w ri = some r) : MetI l yX8_greatestRing wsX8_greatestRing rmX8_greatestRing D (TYL cI cJ cZ cN cM) [.ref (a 0)] (mW cI cJ cZ cN cM a w kn kp sd ks bo bi bk ri fm tt le wa hd sx b1 b2) (mW cI cJ cZ cN cM a w kn kp sd ks bo bi bk ri fm tt le wa hd sx b1 b2) r := by
  refine MetI.mk (cc := cX8_greatestRing) (maxL := 3) (own := RX8) (ty := .int) [(0, .ref (a 0))] (by decide +kernel) rfl rfl (Nat.le_of_ble_eq_true rfl) rfl ?_
  intro p e s m args below meth c A Q C hret
  unfold fX8_greatestRing at hf
  refine q_iconst C 0 dX8_greatestRing_0 (by decide) ?_
  refine q_istore_n C [(1, .int (0 : Int32)), (0, .ref (a 0))] dX8_greatestRing_1 (by decide) rfl ?_
  refine q_iconst C 0 dX8_greatestRing_2 (by decide) ?_
  refine q_istore_n C [(2, .int (0 : Int32)), (1, .int (0 : Int32)), (0, .ref (a 0))] dX8_greatestRing_3 (by decide) rfl ?_
  obtain ⟨v1_4, hL, hf⟩ := bd_e hf
  refine q_lv [(0, .ref (a 0)), (1, .int (0 : Int32)), (2, .int (0 : Int32))] [2, 1, 0] rfl ?_
  refine wX8_greatestRing_L4 C a w kn kp sd ks bo bi bk ri fm tt le wa hd sx b1 b2  v1_4 ?_ 300 _ _ hL
  refine q_iload_n C 0 dX8_greatestRing_41 rfl ?_
  have hz1 := Option.some.inj hf
  clear hf
  subst hz1
  exact hret _ _ dX8_greatestRing_42 rfl

theorem lkX8_sendFrom_1 : Cond.fieldLink RX8 9 "TwiceHeardModel" "w" "[I" ∈ wsX8_sendFrom := List.mem_of_getElem? (i := 1) rfl
theorem lkX8_sendFrom_2 : Cond.fieldLink RX8 25 "TwiceHeardModel" "from" "[I" ∈ wsX8_sendFrom := List.mem_of_getElem? (i := 2) rfl
theorem lkX8_sendFrom_3 : Cond.fieldLink RX8 77 "TwiceHeardModel" "letters" "I" ∈ wsX8_sendFrom := List.mem_of_getElem? (i := 3) rfl
theorem lkX8_sendFrom_4 : Cond.fieldLink RX8 28 "TwiceHeardModel" "to" "[I" ∈ wsX8_sendFrom := List.mem_of_getElem? (i := 4) rfl
theorem inX8_sendFrom_X8 : ∀ w ∈ wsX80, w ∈ wsX8_sendFrom := fun w h => List.mem_cons_of_mem _ (List.mem_append_right _ h)
abbrev rmX8_sendFrom : Room := { frames := 2, cells := 0, slots := 0, locals := 44 }
theorem hdX8_sendFrom : yX8_sendFrom.cls = RX8 ∧ yX8_sendFrom.cls ≠ "java/lang/invoke/MethodHandle" ∧ yX8_sendFrom.cls ≠ "java/lang/invoke/VarHandle" ∧ (parseMethodDescriptor yX8_sendFrom.desc).map (fun d => d.parameters.length) = some 1 := by decide +kernel
def fX8_sendFrom_L11 (w : (Nat → Int32)) (v1 : Int32) (v2 : Int32) : Nat → Int32 → Int32 → (Nat → Int32) → (Nat → Int32) → Int32 → Option ((Nat → Int32) × (Nat → Int32) × Int32)
  | 0, _, _, _, _, _ => none
  | n + 1, v3, v4, fm, tt, le =>
  if (w 0) ≤ v4 then (
  some (fm, tt, le)) else (
  (fX8_has v2 v4).bind fun x25 =>
  jn4 (fun (u3_81 : Int32) (fm_81 : (Nat → Int32)) (tt_81 : (Nat → Int32)) (le_81 : Int32) => 
  fX8_sendFrom_L11 w v1 v2 n u3_81 (v4 + 1) fm_81 tt_81 le_81) fun k81 =>
  if x25 = 0 then (
  k81 v3 fm tt le) else (
  if v3 = 0 then (
  k81 v3 fm tt le) else (
  (wrI 40 fm le v1).bind fun fm_44 =>
  (wrI 40 tt le v4).bind fun tt_55 =>
  jn1 (fun (t0_80 : Int32) => 
  k81 t0_80 fm_44 tt_55 (le + (1 : Int32))) fun k80 =>
  if (w 2) = 0 then (
  k80 (1 : Int32)) else (
  k80 (0 : Int32)))))
def fX8_sendFrom (w : (Nat → Int32)) (ri : (Nat → Int32)) (fm : (Nat → Int32)) (tt : (Nat → Int32)) (le : Int32) (v1 : Int32) : Option ((Nat → Int32) × (Nat → Int32) × Int32) :=
  (fX8_upper w ri v1).bind fun x2 =>
  bd3 (fX8_sendFrom_L11 w v1 x2 300 (1 : Int32) (0 : Int32) fm tt le) fun fm_11 tt_11 le_11 =>
  some (fm_11, tt_11, le_11)
set_option maxRecDepth 100000 in
set_option maxHeartbeats 4000000 in
theorem wX8_sendFrom_L11 {p : Program} {l : Launch} {e : Env} {s : State} {m : MethodId} {args : Array Value} {below : List Frame} {meth : Method} {c : Code} {Q : State → Prop} {D : va_G} {A : Nat → Prop} {cI cJ cZ cN cM : ClassId} (C : Cx p s m args c cX8_sendFrom 5 RX8 wsX8_sendFrom D (TYL cI cJ cZ cN cM) A) (a : Nat → Nat) (w : (Nat → Int32)) (kn : Int32) (kp : Int32) (sd : Int32) (ks : (Nat → Int32)) (bo : (Nat → Int32)) (bi : (Nat → Int32)) (bk : Int32) (ri : (Nat → Int32)) (wa : (Nat → Int32)) (hd : (Nat → Int64)) (sx : (Nat → Int32)) (b1 : (Nat → Int64)) (b2 : (Nat → Int64)) (v1 : Int32) (v2 : Int32) (fm_o : (Nat → Int32)) (tt_o : (Nat → Int32)) (le_o : Int32) (kk : WW p l e rmX8_sendFrom s m args below meth c Q D A 5 0 0 (mW cI cJ cZ cN cM a w kn kp sd ks bo bi bk ri fm_o tt_o le_o wa hd sx b1 b2) [] 87 []) : ∀ (n : Nat) (v3 : Int32) (v4 : Int32) (fm : (Nat → Int32)) (tt : (Nat → Int32)) (le : Int32), fX8_sendFrom_L11 w v1 v2 n v3 v4 fm tt le = some (fm_o, tt_o, le_o) → WW p l e rmX8_sendFrom s m args below meth c Q D A 5 0 0 (mW cI cJ cZ cN cM a w kn kp sd ks bo bi bk ri fm tt le wa hd sx b1 b2) [(0, .ref (a 0)), (1, .int v1), (2, .int v2), (3, .int v3), (4, .int v4)] 11 [] := by
  intro n
  induction n with
  | zero =>
    intro v3 v4 fm tt le hf
    rw [fX8_sendFrom_L11] at hf
    cases hf
  | succ n ih =>
    intro v3 v4 fm tt le hf
    rw [fX8_sendFrom_L11] at hf
    refine q_iload C 4 dX8_sendFrom_11 rfl ?_
    refine q_aload_n C 0 dX8_sendFrom_13 rfl ?_
    refine q_get C 0 0 dX8_sendFrom_14 rfl rfl (Nat.le_of_ble_eq_true rfl) inX8_sendFrom_X8 lkX8_sendFrom_1 rfl rfl ?_
    refine q_iconst C 0 dX8_sendFrom_17 (by decide) ?_
    refine q_ialdC C 1 0 dX8_sendFrom_18 rfl rfl (by unfold vp_in; decide) (x := (w 0)) rfl ?_
    refine q_icmp_ge C 87 dX8_sendFrom_19 (by decide) hf (fun hf => ?_) (fun hf => ?_)
    · refine q_lv [] [] rfl ?_
      have hy0 := Option.some.inj hf
      clear hf
      obtain ⟨hz1, hy1⟩ := Prod.mk.inj hy0
      clear hy0
      obtain ⟨hz2, hy2⟩ := Prod.mk.inj hy1
      clear hy1
      subst hz1
      subst hz2
      subst hy2
      exact kk
    · refine q_iload_n C 2 dX8_sendFrom_22 rfl ?_
      refine q_iload C 4 dX8_sendFrom_23 rfl ?_
      obtain ⟨x25, hM, hf⟩ := bd_e hf
      refine q_callSI C (mW cI cJ cZ cN cM a w kn kp sd ks bo bi bk ri fm tt le wa hd sx b1 b2) (kX8_has l D cI cJ cZ cN cM   v2 v4 x25 hM) (va_cwS 2 C.1.2.2.2.2 gX8_sendFrom_X8_has rfl rfl rfl hdX8_has ⟨Nat.le_of_ble_eq_true rfl, Nat.le_of_ble_eq_true rfl⟩) FrX.none rfl rfl (Nat.le_of_ble_eq_true rfl) dX8_sendFrom_25 ⟨Nat.zero_le _, Nat.zero_le _⟩ ?_
      refine jn4_e (fun (u3_81 : Int32) (fm_81 : (Nat → Int32)) (tt_81 : (Nat → Int32)) (le_81 : Int32) => WW p l e rmX8_sendFrom s m args below meth c Q D A 5 0 0 (mW cI cJ cZ cN cM a w kn kp sd ks bo bi bk ri fm_81 tt_81 le_81 wa hd sx b1 b2) [(0, .ref (a 0)), (1, .int v1), (2, .int v2), (3, .int u3_81), (4, .int v4)] 81 []) hf ?_ ?_
      · intro u3_81 fm_81 tt_81 le_81 hf
        refine q_iinc C (v4 + 1) 4 [(4, .int (v4 + 1)), (0, .ref (a 0)), (1, .int v1), (2, .int v2), (3, .int u3_81)] dX8_sendFrom_81 rfl rfl (by decide) rfl ?_
        refine q_goto C 11 dX8_sendFrom_84 (by decide) ?_
        refine q_lv [(0, .ref (a 0)), (1, .int v1), (2, .int v2), (3, .int u3_81), (4, .int (v4 + 1))] [1, 2, 3, 4, 0] rfl ?_
        exact ih _ _ _ _ _ hf
      intro k81 J81 hf
      refine q_if_eq C 81 dX8_sendFrom_28 (by decide) hf (fun hf => ?_) (fun hf => ?_)
      · exact J81 _ _ _ _ hf
      · refine q_iload_n C 3 dX8_sendFrom_31 rfl ?_
        refine q_if_eq C 81 dX8_sendFrom_32 (by decide) hf (fun hf => ?_) (fun hf => ?_)
        · exact J81 _ _ _ _ hf
        · refine q_aload_n C 0 dX8_sendFrom_35 rfl ?_
          refine q_get C 0 9 dX8_sendFrom_36 rfl rfl (Nat.le_of_ble_eq_true rfl) inX8_sendFrom_X8 lkX8_sendFrom_2 rfl rfl ?_
          refine q_aload_n C 0 dX8_sendFrom_39 rfl ?_
          refine q_get C 0 11 dX8_sendFrom_40 rfl rfl (Nat.le_of_ble_eq_true rfl) inX8_sendFrom_X8 lkX8_sendFrom_3 rfl rfl ?_
          refine q_iload_n C 1 dX8_sendFrom_43 rfl ?_
          refine q_iast C 6 0 (fun fm_44 => mW cI cJ cZ cN cM a w kn kp sd ks bo bi bk ri fm_44 tt le wa hd sx b1 b2) dX8_sendFrom_44 rfl rfl (fun _ => rfl) hf (fun fm_44 hf => ?_)
          refine q_aload_n C 0 dX8_sendFrom_45 rfl ?_
          refine q_get C 0 10 dX8_sendFrom_46 rfl rfl (Nat.le_of_ble_eq_true rfl) inX8_sendFrom_X8 lkX8_sendFrom_4 rfl rfl ?_
          refine q_aload_n C 0 dX8_sendFrom_49 rfl ?_
          refine q_get C 0 11 dX8_sendFrom_50 rfl rfl (Nat.le_of_ble_eq_true rfl) inX8_sendFrom_X8 lkX8_sendFrom_3 rfl rfl ?_
          refine q_iload C 4 dX8_sendFrom_53 rfl ?_
          refine q_iast C 7 0 (fun tt_55 => mW cI cJ cZ cN cM a w kn kp sd ks bo bi bk ri fm_44 tt_55 le wa hd sx b1 b2) dX8_sendFrom_55 rfl rfl (fun _ => rfl) hf (fun tt_55 hf => ?_)
          refine q_aload_n C 0 dX8_sendFrom_56 rfl ?_
          refine q_dup C dX8_sendFrom_57 rfl ?_
          refine q_get C 0 11 dX8_sendFrom_58 rfl rfl (Nat.le_of_ble_eq_true rfl) inX8_sendFrom_X8 lkX8_sendFrom_3 rfl rfl ?_
          refine q_iconst C 1 dX8_sendFrom_61 (by decide) ?_
          refine q_iadd C dX8_sendFrom_62 ?_
          refine q_put C 0 11 (mW cI cJ cZ cN cM a w kn kp sd ks bo bi bk ri fm_44 tt_55 (le + (1 : Int32)) wa hd sx b1 b2) dX8_sendFrom_63 rfl rfl (Nat.le_of_ble_eq_true rfl) inX8_sendFrom_X8 tyX8 tyX8_ok nmX8 lkX8_sendFrom_3 rfl rfl rfl rfl (Nat.le_of_ble_eq_true rfl) rfl ?_
          refine q_aload_n C 0 dX8_sendFrom_66 rfl ?_
          refine q_get C 0 0 dX8_sendFrom_67 rfl rfl (Nat.le_of_ble_eq_true rfl) inX8_sendFrom_X8 lkX8_sendFrom_1 rfl rfl ?_
          refine q_iconst C 2 dX8_sendFrom_70 (by decide) ?_
          refine q_ialdC C 1 0 dX8_sendFrom_71 rfl rfl (by unfold vp_in; decide) (x := (w 2)) rfl ?_
          refine jn1_e (fun (t0_80 : Int32) => WW p l e rmX8_sendFrom s m args below meth c Q D A 5 0 0 (mW cI cJ cZ cN cM a w kn kp sd ks bo bi bk ri fm_44 tt_55 (le + (1 : Int32)) wa hd sx b1 b2) [(0, .ref (a 0)), (1, .int v1), (2, .int v2), (4, .int v4)] 80 [.int t0_80]) hf ?_ ?_
          · intro t0_80 hf
            refine q_istore_n C [(3, .int t0_80), (0, .ref (a 0)), (1, .int v1), (2, .int v2), (4, .int v4)] dX8_sendFrom_80 (by decide) rfl ?_
            refine q_lv [(0, .ref (a 0)), (1, .int v1), (2, .int v2), (3, .int t0_80), (4, .int v4)] [1, 2, 3, 0, 4] rfl ?_
            exact J81 _ _ _ _ hf
          intro k80 J80 hf
          refine q_if_ne C 79 dX8_sendFrom_72 (by decide) hf (fun hf => ?_) (fun hf => ?_)
          · refine q_iconst C 0 dX8_sendFrom_79 (by decide) ?_
            refine q_lv [(0, .ref (a 0)), (1, .int v1), (2, .int v2), (4, .int v4)] [0, 1, 2, 4] rfl ?_
            exact J80 _ hf
          · refine q_iconst C 1 dX8_sendFrom_75 (by decide) ?_
            refine q_goto C 80 dX8_sendFrom_76 (by decide) ?_
            refine q_lv [(0, .ref (a 0)), (1, .int v1), (2, .int v2), (4, .int v4)] [0, 1, 2, 4] rfl ?_
            exact J80 _ hf
set_option maxRecDepth 100000 in
set_option maxHeartbeats 4000000 in
theorem kX8_sendFrom (l : Launch) (D : va_G) (cI cJ cZ cN cM : ClassId) (a : Nat → Nat) (w : (Nat → Int32)) (kn : Int32) (kp : Int32) (sd : Int32) (ks : (Nat → Int32)) (bo : (Nat → Int32)) (bi : (Nat → Int32)) (bk : Int32) (ri : (Nat → Int32)) (fm : (Nat → Int32)) (tt : (Nat → Int32)) (le : Int32) (wa : (Nat → Int32)) (hd : (Nat → Int64)) (sx : (Nat → Int32)) (b1 : (Nat → Int64)) (b2 : (Nat → Int64)) (v1 : Int32) (fm_o : (Nat → Int32)) (tt_o : (Nat → Int32)) (le_o : Int32) (hf : fX8_sendFrom w ri fm tt le v1 = some (fm_o, tt_o, le_o)) : MetV l yX8_sendFrom wsX8_sendFrom rmX8_sendFrom D (TYL cI cJ cZ cN cM) [.ref (a 0), .int v1] (mW cI cJ cZ cN cM a w kn kp sd ks bo bi bk ri fm tt le wa hd sx b1 b2) (mW cI cJ cZ cN cM a w kn kp sd ks bo bi bk ri fm_o tt_o le_o wa hd sx b1 b2) := by
  refine MetV.mk (cc := cX8_sendFrom) (maxL := 5) (own := RX8) [(0, .ref (a 0)), (1, .int v1)] (by decide +kernel) rfl rfl (Nat.le_of_ble_eq_true rfl) rfl ?_
  intro p e s m args below meth c A Q C hret
  unfold fX8_sendFrom at hf
  refine q_aload_n C 0 dX8_sendFrom_0 rfl ?_
  refine q_iload_n C 1 dX8_sendFrom_1 rfl ?_
  obtain ⟨x2, hM, hf⟩ := bd_e hf
  refine q_callVI C (mW cI cJ cZ cN cM a w kn kp sd ks bo bi bk ri fm tt le wa hd sx b1 b2) (kX8_upper l D cI cJ cZ cN cM a w kn kp sd ks bo bi bk ri fm tt le wa hd sx b1 b2 v1 x2 hM) (cwV 1 C.1.2.2.2.2 gX8_sendFrom_X8_upper rfl rfl rfl hdX8_upper ⟨Nat.le_of_ble_eq_true rfl, Nat.le_of_ble_eq_true rfl⟩) 0 7 rfl rfl FrX.all rfl rfl (Nat.le_of_ble_eq_true rfl) dX8_sendFrom_2 ⟨Nat.zero_le _, Nat.zero_le _⟩ ?_
  refine q_istore_n C [(2, .int x2), (0, .ref (a 0)), (1, .int v1)] dX8_sendFrom_5 (by decide) rfl ?_
  refine q_iconst C 1 dX8_sendFrom_6 (by decide) ?_
  refine q_istore_n C [(3, .int (1 : Int32)), (2, .int x2), (0, .ref (a 0)), (1, .int v1)] dX8_sendFrom_7 (by decide) rfl ?_
  refine q_iconst C 0 dX8_sendFrom_8 (by decide) ?_
  refine q_istore C [(4, .int (0 : Int32)), (3, .int (1 : Int32)), (2, .int x2), (0, .ref (a 0)), (1, .int v1)] dX8_sendFrom_9 (by decide) rfl ?_
  obtain ⟨fm_11, tt_11, le_11, hL, hf⟩ := bd3_e hf
  refine q_lv [(0, .ref (a 0)), (1, .int v1), (2, .int x2), (3, .int (1 : Int32)), (4, .int (0 : Int32))] [3, 4, 2, 1, 0] rfl ?_
  refine wX8_sendFrom_L11 C a w kn kp sd ks bo bi bk ri wa hd sx b1 b2 v1 x2 fm_11 tt_11 le_11 ?_ 300 _ _ _ _ _ hL
  have hy0 := Option.some.inj hf
  clear hf
  obtain ⟨hz1, hy1⟩ := Prod.mk.inj hy0
  clear hy0
  obtain ⟨hz2, hy2⟩ := Prod.mk.inj hy1
  clear hy1
  subst hz1
  subst hz2
  subst hy2
  exact hret _ _ dX8_sendFrom_87
