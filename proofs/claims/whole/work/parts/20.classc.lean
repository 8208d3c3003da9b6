theorem lkX6_settle_1 : Cond.fieldLink RX6 62 "TwiceHeard$Net" "size" "I" ∈ wsX6_settle := List.mem_of_getElem? (i := 1) rfl
theorem lkX6_settle_2 : Cond.fieldLink RX6 9 "TwiceHeard$Telling" "ring" "[I" ∈ wsX6_settle := List.mem_of_getElem? (i := 2) rfl
theorem lkX6_settle_3 : Cond.fieldLink RX6 71 "TwiceHeard$Net" "linked" "[I" ∈ wsX6_settle := List.mem_of_getElem? (i := 3) rfl
theorem lkX6_settle_4 : Cond.static yX7_isIn ∈ wsX6_settle := List.mem_of_getElem? (i := 4) rfl
theorem lkX6_settle_5 : Cond.initialized RX7 ∈ wsX6_settle := List.mem_of_getElem? (i := 5) rfl
theorem inX6_settle_X3 : ∀ w ∈ wsX30, w ∈ wsX6_settle := fun w h => List.mem_cons_of_mem _ (List.mem_append_left _ (List.mem_append_right _ h))
theorem inX6_settle_X6 : ∀ w ∈ wsX60, w ∈ wsX6_settle := fun w h => List.mem_cons_of_mem _ (List.mem_append_right _ h)
abbrev rmX6_settle : Room := { frames := 1, cells := 0, slots := 0, locals := 21 }
theorem hdX6_settle : yX6_settle.cls = RX6 ∧ yX6_settle.cls ≠ "java/lang/invoke/MethodHandle" ∧ yX6_settle.cls ≠ "java/lang/invoke/VarHandle" ∧ (parseMethodDescriptor yX6_settle.desc).map (fun d => d.parameters.length) = some 3 := by decide +kernel
def fX6_settle_L6 (sz : Int32) (li : (Nat → Int32)) (v2 : Int32) (v3 : Int32) : Nat → Int32 → Int32 → (Nat → Int32) → Option (Int32 × (Nat → Int32))
  | 0, _, _, _ => none
  | n + 1, v4, v5, ri =>
  if sz ≤ v5 then (
  some (v4, ri)) else (
  (fX7_isIn v2 v5).bind fun x18 =>
  jn2 (fun (u4_44 : Int32) (ri_44 : (Nat → Int32)) => 
  fX6_settle_L6 sz li v2 v3 n u4_44 (v5 + 1) ri_44) fun k44 =>
  if x18 = 0 then (
  k44 v4 ri) else (
  (wrI 9 ri v5 v3).bind fun ri_31 =>
  (rdI 9 li v5).bind fun x40 =>
  k44 (v4 ||| x40) ri_31))
def fX6_settle (ri : (Nat → Int32)) (sz : Int32) (li : (Nat → Int32)) (v2 : Int32) (v3 : Int32) : Option (Int32 × (Nat → Int32)) :=
  bd2 (fX6_settle_L6 sz li v2 v3 300 (0 : Int32) (0 : Int32) ri) fun v4_6 ri_6 =>
  some (v4_6, ri_6)
set_option maxRecDepth 100000 in
set_option maxHeartbeats 4000000 in
theorem wX6_settle_L6 {p : Program} {l : Launch} {e : Env} {s : State} {m : MethodId} {args : Array Value} {below : List Frame} {meth : Method} {c : Code} {Q : State → Prop} {D : va_G} {A : Nat → Prop} {cI cJ cZ cN cM : ClassId} (C : Cx p s m args c cX6_settle 6 RX6 wsX6_settle D (TYL cI cJ cZ cN cM) A) (ta : Nat → Nat) (na : Nat → Nat) (rs : (Nat → Int32)) (gr : Int32) (fm : (Nat → Int32)) (tt : (Nat → Int32)) (co : (Nat → Int32)) (le : Int32) (wa : (Nat → Int32)) (ar : (Nat → Int32)) (hd : (Nat → Int64)) (sz : Int32) (sa : Int32) (mo : Int32) (li : (Nat → Int32)) (lo : (Nat → Int32)) (he : (Nat → Int32)) (v2 : Int32) (v3 : Int32) (o4 : Int32) (ri_o : (Nat → Int32)) (kk : WW p l e rmX6_settle s m args below meth c Q D A 6 0 0 (List.flatten [tW cI cJ cZ cN cM ta ri_o rs gr fm tt co le wa ar hd, nW cI cJ cZ cN cM na sz sa mo li lo he]) [(4, .int o4)] 50 []) : ∀ (n : Nat) (v4 : Int32) (v5 : Int32) (ri : (Nat → Int32)), fX6_settle_L6 sz li v2 v3 n v4 v5 ri = some (o4, ri_o) → WW p l e rmX6_settle s m args below meth c Q D A 6 0 0 (List.flatten [tW cI cJ cZ cN cM ta ri rs gr fm tt co le wa ar hd, nW cI cJ cZ cN cM na sz sa mo li lo he]) [(0, .ref (ta 0)), (1, .ref (na 0)), (2, .int v2), (3, .int v3), (4, .int v4), (5, .int v5)] 6 [] := by
  intro n
  induction n with
  | zero =>
    intro v4 v5 ri hf
    rw [fX6_settle_L6] at hf
    cases hf
  | succ n ih =>
    intro v4 v5 ri hf
    rw [fX6_settle_L6] at hf
    refine q_iload C 5 dX6_settle_6 rfl ?_
    refine q_aload_n C 1 dX6_settle_8 rfl ?_
    refine q_get C 9 0 dX6_settle_9 rfl rfl (Nat.le_of_ble_eq_true rfl) inX6_settle_X3 lkX6_settle_1 rfl rfl ?_
    refine q_icmp_ge C 50 dX6_settle_12 (by decide) hf (fun hf => ?_) (fun hf => ?_)
    · refine q_lv [(4, .int v4)] [4] rfl ?_
      have hy0 := Option.some.inj hf
      clear hf
      obtain ⟨hz1, hy1⟩ := Prod.mk.inj hy0
      clear hy0
      subst hz1
      subst hy1
      exact kk
    · refine q_iload_n C 2 dX6_settle_15 rfl ?_
      refine q_iload C 5 dX6_settle_16 rfl ?_
      obtain ⟨x18, hM, hf⟩ := bd_e hf
      refine q_callSNI C (List.flatten [tW cI cJ cZ cN cM ta ri rs gr fm tt co le wa ar hd, nW cI cJ cZ cN cM na sz sa mo li lo he]) (kX7_isIn l D cI cJ cZ cN cM   v2 v5 x18 hM) ⟨va_cnB 2 C.1.2.2.2.2 gX6_settle_X7_isIn_n67 rfl rfl rfl C.2.2.2.2.1 (C.1.2.2.2.2 _ lkX6_settle_5) hdX7_isIn ⟨Nat.le_of_ble_eq_true rfl, Nat.le_of_ble_eq_true rfl⟩, C.1.2.2.2.2 _ lkX6_settle_4, trivial⟩ FrX.none rfl rfl (Nat.le_of_ble_eq_true rfl) dX6_settle_18 ⟨Nat.zero_le _, Nat.zero_le _⟩ ?_
      refine jn2_e (fun (u4_44 : Int32) (ri_44 : (Nat → Int32)) => WW p l e rmX6_settle s m args below meth c Q D A 6 0 0 (List.flatten [tW cI cJ cZ cN cM ta ri_44 rs gr fm tt co le wa ar hd, nW cI cJ cZ cN cM na sz sa mo li lo he]) [(0, .ref (ta 0)), (1, .ref (na 0)), (2, .int v2), (3, .int v3), (4, .int u4_44), (5, .int v5)] 44 []) hf ?_ ?_
      · intro u4_44 ri_44 hf
        refine q_iinc C (v5 + 1) 5 [(5, .int (v5 + 1)), (0, .ref (ta 0)), (1, .ref (na 0)), (2, .int v2), (3, .int v3), (4, .int u4_44)] dX6_settle_44 rfl rfl (by decide) rfl ?_
        refine q_goto C 6 dX6_settle_47 (by decide) ?_
        refine q_lv [(0, .ref (ta 0)), (1, .ref (na 0)), (2, .int v2), (3, .int v3), (4, .int u4_44), (5, .int (v5 + 1))] [1, 2, 3, 4, 5, 0] rfl ?_
        exact ih _ _ _ hf
      intro k44 J44 hf
      refine q_if_eq C 44 dX6_settle_21 (by decide) hf (fun hf => ?_) (fun hf => ?_)
      · exact J44 _ _ hf
      · refine q_aload_n C 0 dX6_settle_24 rfl ?_
        refine q_get C 0 0 dX6_settle_25 rfl rfl (Nat.le_of_ble_eq_true rfl) inX6_settle_X6 lkX6_settle_2 rfl rfl ?_
        refine q_iload C 5 dX6_settle_28 rfl ?_
        refine q_iload_n C 3 dX6_settle_30 rfl ?_
        refine q_iast C 1 0 (fun ri_31 => List.flatten [tW cI cJ cZ cN cM ta ri_31 rs gr fm tt co le wa ar hd, nW cI cJ cZ cN cM na sz sa mo li lo he]) dX6_settle_31 rfl rfl (fun _ => rfl) hf (fun ri_31 hf => ?_)
        refine q_iload C 4 dX6_settle_32 rfl ?_
        refine q_aload_n C 1 dX6_settle_34 rfl ?_
        refine q_get C 9 3 dX6_settle_35 rfl rfl (Nat.le_of_ble_eq_true rfl) inX6_settle_X3 lkX6_settle_3 rfl rfl ?_
        refine q_iload C 5 dX6_settle_38 rfl ?_
        refine q_iald C 10 0 dX6_settle_40 rfl rfl hf (fun x40 hf => ?_)
        refine q_ior C dX6_settle_41 ?_
        refine q_istore C [(4, .int (v4 ||| x40)), (0, .ref (ta 0)), (1, .ref (na 0)), (2, .int v2), (3, .int v3), (5, .int v5)] dX6_settle_42 (by decide) rfl ?_
        refine q_lv [(0, .ref (ta 0)), (1, .ref (na 0)), (2, .int v2), (3, .int v3), (4, .int (v4 ||| x40)), (5, .int v5)] [1, 2, 3, 4, 0, 5] rfl ?_
        exact J44 _ _ hf
set_option maxRecDepth 100000 in
set_option maxHeartbeats 4000000 in
theorem kX6_settle (l : Launch) (D : va_G) (cI cJ cZ cN cM : ClassId) (ta : Nat → Nat) (na : Nat → Nat) (ri : (Nat → Int32)) (rs : (Nat → Int32)) (gr : Int32) (fm : (Nat → Int32)) (tt : (Nat → Int32)) (co : (Nat → Int32)) (le : Int32) (wa : (Nat → Int32)) (ar : (Nat → Int32)) (hd : (Nat → Int64)) (sz : Int32) (sa : Int32) (mo : Int32) (li : (Nat → Int32)) (lo : (Nat → Int32)) (he : (Nat → Int32)) (v2 : Int32) (v3 : Int32) (r : Int32) (ri_o : (Nat → Int32)) (hf : fX6_settle ri sz li v2 v3 = some (r, ri_o)) : MetI l yX6_settle wsX6_settle rmX6_settle D (TYL cI cJ cZ cN cM) [.ref (ta 0), .ref (na 0), .int v2, .int v3] (List.flatten [tW cI cJ cZ cN cM ta ri rs gr fm tt co le wa ar hd, nW cI cJ cZ cN cM na sz sa mo li lo he]) (List.flatten [tW cI cJ cZ cN cM ta ri_o rs gr fm tt co le wa ar hd, nW cI cJ cZ cN cM na sz sa mo li lo he]) r := by
  refine MetI.mk (cc := cX6_settle) (maxL := 6) (own := RX6) (ty := .int) [(0, .ref (ta 0)), (1, .ref (na 0)), (2, .int v2), (3, .int v3)] (by decide +kernel) rfl rfl (Nat.le_of_ble_eq_true rfl) rfl ?_
  intro p e s m args below meth c A Q C hret
  unfold fX6_settle at hf
  refine q_iconst C 0 dX6_settle_0 (by decide) ?_
  refine q_istore C [(4, .int (0 : Int32)), (0, .ref (ta 0)), (1, .ref (na 0)), (2, .int v2), (3, .int v3)] dX6_settle_1 (by decide) rfl ?_
  refine q_iconst C 0 dX6_settle_3 (by decide) ?_
  refine q_istore C [(5, .int (0 : Int32)), (4, .int (0 : Int32)), (0, .ref (ta 0)), (1, .ref (na 0)), (2, .int v2), (3, .int v3)] dX6_settle_4 (by decide) rfl ?_
  obtain ⟨v4_6, ri_6, hL, hf⟩ := bd2_e hf
  refine q_lv [(0, .ref (ta 0)), (1, .ref (na 0)), (2, .int v2), (3, .int v3), (4, .int (0 : Int32)), (5, .int (0 : Int32))] [2, 3, 4, 5, 1, 0] rfl ?_
  refine wX6_settle_L6 C ta na rs gr fm tt co le wa ar hd sz sa mo li lo he v2 v3 v4_6 ri_6 ?_ 300 _ _ _ hL
  refine q_iload C 0 dX6_settle_50 rfl ?_
  have hy0 := Option.some.inj hf
  clear hf
  obtain ⟨hz1, hy1⟩ := Prod.mk.inj hy0
  clear hy0
  subst hz1
  subst hy1
  exact hret _ _ dX6_settle_52 rfl

theorem lkX6_layRings_1 : Cond.fieldLink RX6 9 "TwiceHeard$Telling" "ring" "[I" ∈ wsX6_layRings := List.mem_of_getElem? (i := 1) rfl
theorem lkX6_layRings_2 : Cond.fieldLink RX6 54 "TwiceHeard$Telling" "greatestRing" "I" ∈ wsX6_layRings := List.mem_of_getElem? (i := 2) rfl
theorem lkX6_layRings_3 : Cond.fieldLink RX6 15 "TwiceHeard$Telling" "ringSets" "[I" ∈ wsX6_layRings := List.mem_of_getElem? (i := 3) rfl
theorem inX6_layRings_X6 : ∀ w ∈ wsX60, w ∈ wsX6_layRings := fun w h => List.mem_cons_of_mem _ (List.mem_append_left _ (List.mem_append_right _ h))
theorem inX6_layRings_X3 : ∀ w ∈ wsX30, w ∈ wsX6_layRings := fun w h => List.mem_cons_of_mem _ (List.mem_append_right _ h)
abbrev rmX6_layRings : Room := { frames := 2, cells := 0, slots := 0, locals := 46 }
theorem hdX6_layRings : yX6_layRings.cls = RX6 ∧ yX6_layRings.cls ≠ "java/lang/invoke/MethodHandle" ∧ yX6_layRings.cls ≠ "java/lang/invoke/VarHandle" ∧ (parseMethodDescriptor yX6_layRings.desc).map (fun d => d.parameters.length) = some 1 := by decide +kernel
def fX6_layRings_L20 (sz : Int32) (li : (Nat → Int32)) : Nat → Int32 → Int32 → Int32 → (Nat → Int32) → (Nat → Int32) → Int32 → Option ((Nat → Int32) × (Nat → Int32) × Int32)
  | 0, _, _, _, _, _, _ => none
  | n + 1, v2, v3, v4, ri, rs, gr =>
  if (9 : Int32) ≤ v4 then (
  some (ri, rs, gr)) else (
  (wrI 9 rs v4 v3).bind fun rs_34 =>
  jn1 (fun (gr_45 : Int32) => 
  bd2 (fX6_settle ri sz li v3 v4) fun x50 ri_50 =>
  fX6_layRings_L20 sz li n (v2 ||| (x50 &&& (v2 ^^^ (-1 : Int32)))) (x50 &&& (v2 ^^^ (-1 : Int32))) (v4 + 1) ri_50 rs_34 gr_45) fun k45 =>
  if v3 = 0 then (
  k45 gr) else (
  k45 v4))
def fX6_layRings (ri : (Nat → Int32)) (rs : (Nat → Int32)) (gr : Int32) (sz : Int32) (li : (Nat → Int32))  : Option ((Nat → Int32) × (Nat → Int32) × Int32) :=
  (fJ7_fill_53178 ri (-1 : Int32)).bind fun ri_5 =>
  bd3 (fX6_layRings_L20 sz li 300 (1 : Int32) (1 : Int32) (0 : Int32) ri_5 rs (0 : Int32)) fun ri_20 rs_20 gr_20 =>
  some (ri_20, rs_20, gr_20)
set_option maxRecDepth 100000 in
set_option maxHeartbeats 4000000 in
theorem wX6_layRings_L20 {p : Program} {l : Launch} {e : Env} {s : State} {m : MethodId} {args : Array Value} {below : List Frame} {meth : Method} {c : Code} {Q : State → Prop} {D : va_G} {A : Nat → Prop} {cI cJ cZ cN cM : ClassId} (C : Cx p s m args c cX6_layRings 5 RX6 wsX6_layRings D (TYL cI cJ cZ cN cM) A) (ta : Nat → Nat) (na : Nat → Nat) (fm : (Nat → Int32)) (tt : (Nat → Int32)) (co : (Nat → Int32)) (le : Int32) (wa : (Nat → Int32)) (ar : (Nat → Int32)) (hd : (Nat → Int64)) (sz : Int32) (sa : Int32) (mo : Int32) (li : (Nat → Int32)) (lo : (Nat → Int32)) (he : (Nat → Int32))  (ri_o : (Nat → Int32)) (rs_o : (Nat → Int32)) (gr_o : Int32) (kk : WW p l e rmX6_layRings s m args below meth c Q D A 5 0 0 (List.flatten [tW cI cJ cZ cN cM ta ri_o rs_o gr_o fm tt co le wa ar hd, nW cI cJ cZ cN cM na sz sa mo li lo he]) [] 68 []) : ∀ (n : Nat) (v2 : Int32) (v3 : Int32) (v4 : Int32) (ri : (Nat → Int32)) (rs : (Nat → Int32)) (gr : Int32), fX6_layRings_L20 sz li n v2 v3 v4 ri rs gr = some (ri_o, rs_o, gr_o) → WW p l e rmX6_layRings s m args below meth c Q D A 5 0 0 (List.flatten [tW cI cJ cZ cN cM ta ri rs gr fm tt co le wa ar hd, nW cI cJ cZ cN cM na sz sa mo li lo he]) [(0, .ref (ta 0)), (1, .ref (na 0)), (2, .int v2), (3, .int v3), (4, .int v4)] 20 [] := by
  intro n
  induction n with
  | zero =>
    intro v2 v3 v4 ri rs gr hf
    rw [fX6_layRings_L20] at hf
    cases hf
  | succ n ih =>
    intro v2 v3 v4 ri rs gr hf
    rw [fX6_layRings_L20] at hf
    refine q_iload C 4 dX6_layRings_20 rfl ?_
    refine q_bipush C 9 dX6_layRings_22 (by decide) ?_
    refine q_icmp_ge C 68 dX6_layRings_24 (by decide) hf (fun hf => ?_) (fun hf => ?_)
    · refine q_lv [] [] rfl ?_
      have hy0 := Option.some.inj hf
      clear hf
      obtain ⟨hz1, hy1⟩ := Prod.mk.inj hy0
      clear hy0
      obtain ⟨hz2, hy2⟩ := Prod.mk.inj hy1
      clear hy1
      subst hz1
      subst hz2
      subst hy2
      exact kk
    · refine q_aload_n C 0 dX6_layRings_27 rfl ?_
      refine q_get C 0 1 dX6_layRings_28 rfl rfl (Nat.le_of_ble_eq_true rfl) inX6_layRings_X6 lkX6_layRings_3 rfl rfl ?_
      refine q_iload C 4 dX6_layRings_31 rfl ?_
      refine q_iload_n C 3 dX6_layRings_33 rfl ?_
      refine q_iast C 2 0 (fun rs_34 => List.flatten [tW cI cJ cZ cN cM ta ri rs_34 gr fm tt co le wa ar hd, nW cI cJ cZ cN cM na sz sa mo li lo he]) dX6_layRings_34 rfl rfl (fun _ => rfl) hf (fun rs_34 hf => ?_)
      refine q_iload_n C 3 dX6_layRings_35 rfl ?_
      refine jn1_e (fun (gr_45 : Int32) => WW p l e rmX6_layRings s m args below meth c Q D A 5 0 0 (List.flatten [tW cI cJ cZ cN cM ta ri rs_34 gr_45 fm tt co le wa ar hd, nW cI cJ cZ cN cM na sz sa mo li lo he]) [(0, .ref (ta 0)), (1, .ref (na 0)), (2, .int v2), (3, .int v3), (4, .int v4)] 45 []) hf ?_ ?_
      · intro gr_45 hf
        refine q_aload_n C 0 dX6_layRings_45 rfl ?_
        refine q_aload_n C 1 dX6_layRings_46 rfl ?_
        refine q_iload_n C 3 dX6_layRings_47 rfl ?_
        refine q_iload C 4 dX6_layRings_48 rfl ?_
        obtain ⟨x50, ri_50, hM, hf⟩ := bd2_e hf
        refine q_callVI C (List.flatten [tW cI cJ cZ cN cM ta ri_50 rs_34 gr_45 fm tt co le wa ar hd, nW cI cJ cZ cN cM na sz sa mo li lo he]) (kX6_settle l D cI cJ cZ cN cM ta na ri rs_34 gr_45 fm tt co le wa ar hd sz sa mo li lo he v3 v4 x50 ri_50 hM) (cwV 3 C.1.2.2.2.2 gX6_layRings_X6_settle rfl rfl rfl hdX6_settle ⟨Nat.le_of_ble_eq_true rfl, Nat.le_of_ble_eq_true rfl⟩) 0 5 rfl rfl FrX.all rfl rfl (Nat.le_of_ble_eq_true rfl) dX6_layRings_50 ⟨Nat.zero_le _, Nat.zero_le _⟩ ?_
        refine q_iload_n C 2 dX6_layRings_53 rfl ?_
        refine q_iconst C (-1) dX6_layRings_54 (by decide) ?_
        refine q_ixor C dX6_layRings_55 ?_
        refine q_iand C dX6_layRings_56 ?_
        refine q_istore_n C [(3, .int (x50 &&& (v2 ^^^ (-1 : Int32)))), (0, .ref (ta 0)), (1, .ref (na 0)), (2, .int v2), (4, .int v4)] dX6_layRings_57 (by decide) rfl ?_
        refine q_iload_n C 3 dX6_layRings_58 rfl ?_
        refine q_iload_n C 0 dX6_layRings_59 rfl ?_
        refine q_ior C dX6_layRings_60 ?_
        refine q_istore_n C [(2, .int (v2 ||| (x50 &&& (v2 ^^^ (-1 : Int32))))), (3, .int (x50 &&& (v2 ^^^ (-1 : Int32)))), (0, .ref (ta 0)), (1, .ref (na 0)), (4, .int v4)] dX6_layRings_61 (by decide) rfl ?_
        refine q_iinc C (v4 + 1) 4 [(4, .int (v4 + 1)), (2, .int (v2 ||| (x50 &&& (v2 ^^^ (-1 : Int32))))), (3, .int (x50 &&& (v2 ^^^ (-1 : Int32)))), (0, .ref (ta 0)), (1, .ref (na 0))] dX6_layRings_62 rfl rfl (by decide) rfl ?_
        refine q_goto C 20 dX6_layRings_65 (by decide) ?_
        refine q_lv [(0, .ref (ta 0)), (1, .ref (na 0)), (2, .int (v2 ||| (x50 &&& (v2 ^^^ (-1 : Int32))))), (3, .int (x50 &&& (v2 ^^^ (-1 : Int32)))), (4, .int (v4 + 1))] [3, 4, 1, 2, 0] rfl ?_
        exact ih _ _ _ _ _ _ hf
      intro k45 J45 hf
      refine q_if_eq C 45 dX6_layRings_36 (by decide) hf (fun hf => ?_) (fun hf => ?_)
      · exact J45 _ hf
      · refine q_aload_n C 0 dX6_layRings_39 rfl ?_
        refine q_iload C 4 dX6_layRings_40 rfl ?_
        refine q_put C 0 2 (List.flatten [tW cI cJ cZ cN cM ta ri rs_34 v4 fm tt co le wa ar hd, nW cI cJ cZ cN cM na sz sa mo li lo he]) dX6_layRings_42 rfl rfl (Nat.le_of_ble_eq_true rfl) inX6_layRings_X6 tyX6 tyX6_ok nmX6 lkX6_layRings_2 rfl rfl rfl rfl (Nat.le_of_ble_eq_true rfl) rfl ?_
        exact J45 _ hf
set_option maxRecDepth 100000 in
set_option maxHeartbeats 4000000 in
theorem kX6_layRings (l : Launch) (D : va_G) (cI cJ cZ cN cM : ClassId) (ta : Nat → Nat) (na : Nat → Nat) (ri : (Nat → Int32)) (rs : (Nat → Int32)) (gr : Int32) (fm : (Nat → Int32)) (tt : (Nat → Int32)) (co : (Nat → Int32)) (le : Int32) (wa : (Nat → Int32)) (ar : (Nat → Int32)) (hd : (Nat → Int64)) (sz : Int32) (sa : Int32) (mo : Int32) (li : (Nat → Int32)) (lo : (Nat → Int32)) (he : (Nat → Int32))  (ri_o : (Nat → Int32)) (rs_o : (Nat → Int32)) (gr_o : Int32) (hf : fX6_layRings ri rs gr sz li = some (ri_o, rs_o, gr_o)) : MetV l yX6_layRings wsX6_layRings rmX6_layRings D (TYL cI cJ cZ cN cM) [.ref (ta 0), .ref (na 0)] (List.flatten [tW cI cJ cZ cN cM ta ri rs gr fm tt co le wa ar hd, nW cI cJ cZ cN cM na sz sa mo li lo he]) (List.flatten [tW cI cJ cZ cN cM ta ri_o rs_o gr_o fm tt co le wa ar hd, nW cI cJ cZ cN cM na sz sa mo li lo he]) := by
  refine MetV.mk (cc := cX6_layRings) (maxL := 5) (own := RX6) [(0, .ref (ta 0)), (1, .ref (na 0))] (by decide +kernel) rfl rfl (Nat.le_of_ble_eq_true rfl) rfl ?_
  intro p e s m args below meth c A Q C hret
  unfold fX6_layRings at hf
  refine q_aload_n C 0 dX6_layRings_0 rfl ?_
  refine q_get C 0 0 dX6_layRings_1 rfl rfl (Nat.le_of_ble_eq_true rfl) inX6_layRings_X6 lkX6_layRings_1 rfl rfl ?_
  refine q_iconst C (-1) dX6_layRings_4 (by decide) ?_
  obtain ⟨ri_5, hM, hf⟩ := bd_e hf
  refine q_callSV C (List.flatten [tW cI cJ cZ cN cM ta ri_5 rs gr fm tt co le wa ar hd, nW cI cJ cZ cN cM na sz sa mo li lo he]) (kJ7_fill_53178 l D cI cJ cZ cN cM (fun _ => ta 1) ri (-1 : Int32) ri_5 hM) (va_cwS 2 C.1.2.2.2.2 gX6_layRings_J7_fill_53178 rfl rfl rfl hdJ7_fill_53178 ⟨Nat.le_of_ble_eq_true rfl, Nat.le_of_ble_eq_true rfl⟩) (FrX.ofB [1] [0, 2, 3, 4, 5, 6, 7, 8, 9, 10, 11, 12] [0, 12, 1, 2, 3, 4, 5, 6, 7, 8, 9, 10, 11] rfl rfl rfl rfl rfl rfl rfl) rfl rfl (Nat.le_of_ble_eq_true rfl) dX6_layRings_5 ⟨Nat.zero_le _, Nat.zero_le _⟩ ?_
  refine q_aload_n C 0 dX6_layRings_8 rfl ?_
  refine q_iconst C 0 dX6_layRings_9 (by decide) ?_
  refine q_put C 0 2 (List.flatten [tW cI cJ cZ cN cM ta ri_5 rs (0 : Int32) fm tt co le wa ar hd, nW cI cJ cZ cN cM na sz sa mo li lo he]) dX6_layRings_10 rfl rfl (Nat.le_of_ble_eq_true rfl) inX6_layRings_X6 tyX6 tyX6_ok nmX6 lkX6_layRings_2 rfl rfl rfl rfl (Nat.le_of_ble_eq_true rfl) rfl ?_
  refine q_iconst C 1 dX6_layRings_13 (by decide) ?_
  refine q_istore_n C [(2, .int (1 : Int32)), (0, .ref (ta 0)), (1, .ref (na 0))] dX6_layRings_14 (by decide) rfl ?_
  refine q_iconst C 1 dX6_layRings_15 (by decide) ?_
  refine q_istore_n C [(3, .int (1 : Int32)), (2, .int (1 : Int32)), (0, .ref (ta 0)), (1, .ref (na 0))] dX6_layRings_16 (by decide) rfl ?_
  refine q_iconst C 0 dX6_layRings_17 (by decide) ?_
  refine q_istore C [(4, .int (0 : Int32)), (3, .int (1 : Int32)), (2, .int (1 : Int32)), (0, .ref (ta 0)), (1, .ref (na 0))] dX6_layRings_18 (by decide) rfl ?_
  obtain ⟨ri_20, rs_20, gr_20, hL, hf⟩ := bd3_e hf
  refine q_lv [(0, .ref (ta 0)), (1, .ref (na 0)), (2, .int (1 : Int32)), (3, .int (1 : Int32)), (4, .int (0 : Int32))] [3, 4, 2, 1, 0] rfl ?_
  refine wX6_layRings_L20 C ta na fm tt co le wa ar hd sz sa mo li lo he  ri_20 rs_20 gr_20 ?_ 300 _ _ _ _ _ _ hL
  have hy0 := Option.some.inj hf
  clear hf
  obtain ⟨hz1, hy1⟩ := Prod.mk.inj hy0
  clear hy0
  obtain ⟨hz2, hy2⟩ := Prod.mk.inj hy1
  clear hy1
  subst hz1
  subst hz2
  subst hy2
  exact hret _ _ dX6_layRings_68

theorem lkX6_uppers_1 : Cond.fieldLink RX6 9 "TwiceHeard$Telling" "ring" "[I" ∈ wsX6_uppers := List.mem_of_getElem? (i := 1) rfl
theorem lkX6_uppers_2 : Cond.fieldLink RX6 71 "TwiceHeard$Net" "linked" "[I" ∈ wsX6_uppers := List.mem_of_getElem? (i := 2) rfl
theorem lkX6_uppers_3 : Cond.fieldLink RX6 15 "TwiceHeard$Telling" "ringSets" "[I" ∈ wsX6_uppers := List.mem_of_getElem? (i := 3) rfl
theorem inX6_uppers_X6 : ∀ w ∈ wsX60, w ∈ wsX6_uppers := fun w h => List.mem_cons_of_mem _ (List.mem_append_left _ (List.mem_append_right _ h))
theorem inX6_uppers_X3 : ∀ w ∈ wsX30, w ∈ wsX6_uppers := fun w h => List.mem_cons_of_mem _ (List.mem_append_right _ h)
abbrev rmX6_uppers : Room := { frames := 0, cells := 0, slots := 0, locals := 0 }
theorem hdX6_uppers : yX6_uppers.cls = RX6 ∧ yX6_uppers.cls ≠ "java/lang/invoke/MethodHandle" ∧ yX6_uppers.cls ≠ "java/lang/invoke/VarHandle" ∧ (parseMethodDescriptor yX6_uppers.desc).map (fun d => d.parameters.length) = some 2 := by decide +kernel
def fX6_uppers (ri : (Nat → Int32)) (rs : (Nat → Int32)) (li : (Nat → Int32)) (v2 : Int32) : Option (Int32) :=
  (rdI 9 ri v2).bind fun x5 =>
  if (1 : Int32) ≤ x5 then (
  (rdI 9 li v2).bind fun x19 =>
  (rdI 9 ri v2).bind fun x29 =>
  (rdI 9 rs (x29 - (1 : Int32))).bind fun x32 =>
  some (x19 &&& x32)) else (
  some (0 : Int32))
set_option maxRecDepth 100000 in
set_option maxHeartbeats 4000000 in
theorem kX6_uppers (l : Launch) (D : va_G) (cI cJ cZ cN cM : ClassId) (ta : Nat → Nat) (na : Nat → Nat) (ri : (Nat → Int32)) (rs : (Nat → Int32)) (gr : Int32) (fm : (Nat → Int32)) (tt : (Nat → Int32)) (co : (Nat → Int32)) (le : Int32) (wa : (Nat → Int32)) (ar : (Nat → Int32)) (hd : (Nat → Int64)) (sz : Int32) (sa : Int32) (mo : Int32) (li : (Nat → Int32)) (lo : (Nat → Int32)) (he : (Nat → Int32)) (v2 : Int32) (r : Int32) (hf : fX6_uppers ri rs li v2 = some r) : MetI l yX6_uppers wsX6_uppers rmX6_uppers D (TYL cI cJ cZ cN cM) [.ref (ta 0), .ref (na 0), .int v2] (List.flatten [tW cI cJ cZ cN cM ta ri rs gr fm tt co le wa ar hd, nW cI cJ cZ cN cM na sz sa mo li lo he]) (List.flatten [tW cI cJ cZ cN cM ta ri rs gr fm tt co le wa ar hd, nW cI cJ cZ cN cM na sz sa mo li lo he]) r := by
  refine MetI.mk (cc := cX6_uppers) (maxL := 3) (own := RX6) (ty := .int) [(0, .ref (ta 0)), (1, .ref (na 0)), (2, .int v2)] (by decide +kernel) rfl rfl (Nat.le_of_ble_eq_true rfl) rfl ?_
  intro p e s m args below meth c A Q C hret
  unfold fX6_uppers at hf
  refine q_aload_n C 0 dX6_uppers_0 rfl ?_
  refine q_get C 0 0 dX6_uppers_1 rfl rfl (Nat.le_of_ble_eq_true rfl) inX6_uppers_X6 lkX6_uppers_1 rfl rfl ?_
  refine q_iload_n C 2 dX6_uppers_4 rfl ?_
  refine q_iald C 1 0 dX6_uppers_5 rfl rfl hf (fun x5 hf => ?_)
  refine q_iconst C 1 dX6_uppers_6 (by decide) ?_
  refine q_icmp_ge C 14 dX6_uppers_7 (by decide) hf (fun hf => ?_) (fun hf => ?_)
  · refine q_aload_n C 1 dX6_uppers_14 rfl ?_
    refine q_get C 9 3 dX6_uppers_15 rfl rfl (Nat.le_of_ble_eq_true rfl) inX6_uppers_X3 lkX6_uppers_2 rfl rfl ?_
    refine q_iload_n C 2 dX6_uppers_18 rfl ?_
    refine q_iald C 10 0 dX6_uppers_19 rfl rfl hf (fun x19 hf => ?_)
    refine q_aload_n C 0 dX6_uppers_20 rfl ?_
    refine q_get C 0 1 dX6_uppers_21 rfl rfl (Nat.le_of_ble_eq_true rfl) inX6_uppers_X6 lkX6_uppers_3 rfl rfl ?_
    refine q_aload_n C 0 dX6_uppers_24 rfl ?_
    refine q_get C 0 0 dX6_uppers_25 rfl rfl (Nat.le_of_ble_eq_true rfl) inX6_uppers_X6 lkX6_uppers_1 rfl rfl ?_
    refine q_iload_n C 2 dX6_uppers_28 rfl ?_
    refine q_iald C 1 0 dX6_uppers_29 rfl rfl hf (fun x29 hf => ?_)
    refine q_iconst C 1 dX6_uppers_30 (by decide) ?_
    refine q_isub C dX6_uppers_31 ?_
    refine q_iald C 2 0 dX6_uppers_32 rfl rfl hf (fun x32 hf => ?_)
    refine q_iand C dX6_uppers_33 ?_
    have hz1 := Option.some.inj hf
    clear hf
    subst hz1
    exact hret _ _ dX6_uppers_34 rfl
  · refine q_iconst C 0 dX6_uppers_10 (by decide) ?_
    refine q_goto C 34 dX6_uppers_11 (by decide) ?_
    have hz1 := Option.some.inj hf
    clear hf
    subst hz1
    exact hret _ _ dX6_uppers_34 rfl

theorem lkX6_writeFrom_1 : Cond.fieldLink RX6 85 "TwiceHeard$Net" "mode" "I" ∈ wsX6_writeFrom := List.mem_of_getElem? (i := 1) rfl
theorem lkX6_writeFrom_2 : Cond.fieldLink RX6 62 "TwiceHeard$Net" "size" "I" ∈ wsX6_writeFrom := List.mem_of_getElem? (i := 2) rfl
theorem lkX6_writeFrom_3 : Cond.fieldLink RX6 74 "TwiceHeard$Telling" "letters" "I" ∈ wsX6_writeFrom := List.mem_of_getElem? (i := 3) rfl
theorem lkX6_writeFrom_4 : Cond.fieldLink RX6 18 "TwiceHeard$Telling" "from" "[I" ∈ wsX6_writeFrom := List.mem_of_getElem? (i := 4) rfl
theorem lkX6_writeFrom_5 : Cond.fieldLink RX6 21 "TwiceHeard$Telling" "to" "[I" ∈ wsX6_writeFrom := List.mem_of_getElem? (i := 5) rfl
theorem lkX6_writeFrom_6 : Cond.fieldLink RX6 24 "TwiceHeard$Telling" "comes" "[Z" ∈ wsX6_writeFrom := List.mem_of_getElem? (i := 6) rfl
theorem lkX6_writeFrom_7 : Cond.fieldLink RX6 88 "TwiceHeard$Net" "lost" "[I" ∈ wsX6_writeFrom := List.mem_of_getElem? (i := 7) rfl
theorem lkX6_writeFrom_16 : Cond.static yX7_isIn ∈ wsX6_writeFrom := List.mem_of_getElem? (i := 16) rfl
theorem lkX6_writeFrom_17 : Cond.initialized RX7 ∈ wsX6_writeFrom := List.mem_of_getElem? (i := 17) rfl
theorem inX6_writeFrom_X3 : ∀ w ∈ wsX30, w ∈ wsX6_writeFrom := fun w h => List.mem_cons_of_mem _ (List.mem_append_left _ (List.mem_append_right _ h))
theorem inX6_writeFrom_X6 : ∀ w ∈ wsX60, w ∈ wsX6_writeFrom := fun w h => List.mem_cons_of_mem _ (List.mem_append_right _ h)
abbrev rmX6_writeFrom : Room := { frames := 1, cells := 0, slots := 0, locals := 22 }
theorem hdX6_writeFrom : yX6_writeFrom.cls = RX6 ∧ yX6_writeFrom.cls ≠ "java/lang/invoke/MethodHandle" ∧ yX6_writeFrom.cls ≠ "java/lang/invoke/VarHandle" ∧ (parseMethodDescriptor yX6_writeFrom.desc).map (fun d => d.parameters.length) = some 2 := by decide +kernel
def fX6_writeFrom_L23 (sz : Int32) (lo : (Nat → Int32)) (v2 : Int32) (v3 : Int32) : Nat → Int32 → (Nat → Int32) → (Nat → Int32) → (Nat → Int32) → Int32 → Option ((Nat → Int32) × (Nat → Int32) × (Nat → Int32) × Int32)
  | 0, _, _, _, _, _ => none
  | n + 1, v4, fm, tt, co, le =>
  if sz ≤ v4 then (
  some (fm, tt, co, le)) else (
  if (36 : Int32) ≤ le then (
  some (fm, tt, co, le)) else (
  (fX7_isIn v3 v4).bind fun x44 =>
  jn4 (fun (fm_109 : (Nat → Int32)) (tt_109 : (Nat → Int32)) (co_109 : (Nat → Int32)) (le_109 : Int32) => 
  fX6_writeFrom_L23 sz lo v2 v3 n (v4 + 1) fm_109 tt_109 co_109 le_109) fun k109 =>
  if x44 = 0 then (
  k109 fm tt co le) else (
  (wrI 36 fm le v2).bind fun fm_59 =>
  (wrI 36 tt le v4).bind fun tt_70 =>
  (rdI 9 lo v2).bind fun x84 =>
  (fX7_isIn x84 v4).bind fun x87 =>
  jn1 (fun (t0_98 : Int32) => 
  (wrZ 36 co le t0_98).bind fun co_98 =>
  k109 fm_59 tt_70 co_98 (le + (1 : Int32))) fun k98 =>
  if x87 = 0 then (
  k98 (1 : Int32)) else (
  k98 (0 : Int32)))))
def fX6_writeFrom (ri : (Nat → Int32)) (rs : (Nat → Int32)) (fm : (Nat → Int32)) (tt : (Nat → Int32)) (co : (Nat → Int32)) (le : Int32) (sz : Int32) (mo : Int32) (li : (Nat → Int32)) (lo : (Nat → Int32)) (v2 : Int32) : Option ((Nat → Int32) × (Nat → Int32) × (Nat → Int32) × Int32) :=
  (fX6_uppers ri rs li v2).bind fun x3 =>
  jn1 (fun (u3_20 : Int32) => 
  bd4 (fX6_writeFrom_L23 sz lo v2 u3_20 300 (0 : Int32) fm tt co le) fun fm_23 tt_23 co_23 le_23 =>
  some (fm_23, tt_23, co_23, le_23)) fun k20 =>
  if mo = (1 : Int32) then (
  k20 (x3 &&& (-x3))) else (
  k20 x3)
set_option maxRecDepth 100000 in
set_option maxHeartbeats 4000000 in
theorem wX6_writeFrom_L23 {p : Program} {l : Launch} {e : Env} {s : State} {m : MethodId} {args : Array Value} {below : List Frame} {meth : Method} {c : Code} {Q : State → Prop} {D : va_G} {A : Nat → Prop} {cI cJ cZ cN cM : ClassId} (C : Cx p s m args c cX6_writeFrom 5 RX6 wsX6_writeFrom D (TYL cI cJ cZ cN cM) A) (ta : Nat → Nat) (na : Nat → Nat) (ri : (Nat → Int32)) (rs : (Nat → Int32)) (gr : Int32) (wa : (Nat → Int32)) (ar : (Nat → Int32)) (hd : (Nat → Int64)) (sz : Int32) (sa : Int32) (mo : Int32) (li : (Nat → Int32)) (lo : (Nat → Int32)) (he : (Nat → Int32)) (v2 : Int32) (v3 : Int32) (fm_o : (Nat → Int32)) (tt_o : (Nat → Int32)) (co_o : (Nat → Int32)) (le_o : Int32) (kk : WW p l e rmX6_writeFrom s m args below meth c Q D A 5 0 0 (List.flatten [tW cI cJ cZ cN cM ta ri rs gr fm_o tt_o co_o le_o wa ar hd, nW cI cJ cZ cN cM na sz sa mo li lo he]) [] 115 []) : ∀ (n : Nat) (v4 : Int32) (fm : (Nat → Int32)) (tt : (Nat → Int32)) (co : (Nat → Int32)) (le : Int32), fX6_writeFrom_L23 sz lo v2 v3 n v4 fm tt co le = some (fm_o, tt_o, co_o, le_o) → WW p l e rmX6_writeFrom s m args below meth c Q D A 5 0 0 (List.flatten [tW cI cJ cZ cN cM ta ri rs gr fm tt co le wa ar hd, nW cI cJ cZ cN cM na sz sa mo li lo he]) [(0, .ref (ta 0)), (1, .ref (na 0)), (2, .int v2), (3, .int v3), (4, .int v4)] 23 [] := by
  intro n
  induction n with
  | zero =>
    intro v4 fm tt co le hf
    rw [fX6_writeFrom_L23] at hf
    cases hf
  | succ n ih =>
    intro v4 fm tt co le hf
    rw [fX6_writeFrom_L23] at hf
    refine q_iload C 4 dX6_writeFrom_23 rfl ?_
    refine q_aload_n C 1 dX6_writeFrom_25 rfl ?_
    refine q_get C 9 0 dX6_writeFrom_26 rfl rfl (Nat.le_of_ble_eq_true rfl) inX6_writeFrom_X3 lkX6_writeFrom_2 rfl rfl ?_
    refine q_icmp_ge C 115 dX6_writeFrom_29 (by decide) hf (fun hf => ?_) (fun hf => ?_)
    · refine q_lv [] [] rfl ?_
      have hy0 := Option.some.inj hf
      clear hf
      obtain ⟨hz1, hy1⟩ := Prod.mk.inj hy0
      clear hy0
      obtain ⟨hz2, hy2⟩ := Prod.mk.inj hy1
      clear hy1
      obtain ⟨hz3, hy3⟩ := Prod.mk.inj hy2
      clear hy2
      subst hz1
      subst hz2
      subst hz3
      subst hy3
      exact kk
    · refine q_aload_n C 0 dX6_writeFrom_32 rfl ?_
      refine q_get C 0 6 dX6_writeFrom_33 rfl rfl (Nat.le_of_ble_eq_true rfl) inX6_writeFrom_X6 lkX6_writeFrom_3 rfl rfl ?_
      refine q_bipush C 36 dX6_writeFrom_36 (by decide) ?_
      refine q_icmp_ge C 115 dX6_writeFrom_38 (by decide) hf (fun hf => ?_) (fun hf => ?_)
      · refine q_lv [] [] rfl ?_
        have hy0 := Option.some.inj hf
        clear hf
        obtain ⟨hz1, hy1⟩ := Prod.mk.inj hy0
        clear hy0
        obtain ⟨hz2, hy2⟩ := Prod.mk.inj hy1
        clear hy1
        obtain ⟨hz3, hy3⟩ := Prod.mk.inj hy2
        clear hy2
        subst hz1
        subst hz2
        subst hz3
        subst hy3
        exact kk
      · refine q_iload_n C 3 dX6_writeFrom_41 rfl ?_
        refine q_iload C 4 dX6_writeFrom_42 rfl ?_
        obtain ⟨x44, hM, hf⟩ := bd_e hf
        refine q_callSNI C (List.flatten [tW cI cJ cZ cN cM ta ri rs gr fm tt co le wa ar hd, nW cI cJ cZ cN cM na sz sa mo li lo he]) (kX7_isIn l D cI cJ cZ cN cM   v3 v4 x44 hM) ⟨va_cnB 2 C.1.2.2.2.2 gX6_writeFrom_X7_isIn_n67 rfl rfl rfl C.2.2.2.2.1 (C.1.2.2.2.2 _ lkX6_writeFrom_17) hdX7_isIn ⟨Nat.le_of_ble_eq_true rfl, Nat.le_of_ble_eq_true rfl⟩, C.1.2.2.2.2 _ lkX6_writeFrom_16, trivial⟩ FrX.none rfl rfl (Nat.le_of_ble_eq_true rfl) dX6_writeFrom_44 ⟨Nat.zero_le _, Nat.zero_le _⟩ ?_
        refine jn4_e (fun (fm_109 : (Nat → Int32)) (tt_109 : (Nat → Int32)) (co_109 : (Nat → Int32)) (le_109 : Int32) => WW p l e rmX6_writeFrom s m args below meth c Q D A 5 0 0 (List.flatten [tW cI cJ cZ cN cM ta ri rs gr fm_109 tt_109 co_109 le_109 wa ar hd, nW cI cJ cZ cN cM na sz sa mo li lo he]) [(0, .ref (ta 0)), (1, .ref (na 0)), (2, .int v2), (3, .int v3), (4, .int v4)] 109 []) hf ?_ ?_
        · intro fm_109 tt_109 co_109 le_109 hf
          refine q_iinc C (v4 + 1) 4 [(4, .int (v4 + 1)), (0, .ref (ta 0)), (1, .ref (na 0)), (2, .int v2), (3, .int v3)] dX6_writeFrom_109 rfl rfl (by decide) rfl ?_
          refine q_goto C 23 dX6_writeFrom_112 (by decide) ?_
          refine q_lv [(0, .ref (ta 0)), (1, .ref (na 0)), (2, .int v2), (3, .int v3), (4, .int (v4 + 1))] [1, 2, 3, 4, 0] rfl ?_
          exact ih _ _ _ _ _ hf
        intro k109 J109 hf
        refine q_if_eq C 109 dX6_writeFrom_47 (by decide) hf (fun hf => ?_) (fun hf => ?_)
        · exact J109 _ _ _ _ hf
        · refine q_aload_n C 0 dX6_writeFrom_50 rfl ?_
          refine q_get C 0 3 dX6_writeFrom_51 rfl rfl (Nat.le_of_ble_eq_true rfl) inX6_writeFrom_X6 lkX6_writeFrom_4 rfl rfl ?_
          refine q_aload_n C 0 dX6_writeFrom_54 rfl ?_
          refine q_get C 0 6 dX6_writeFrom_55 rfl rfl (Nat.le_of_ble_eq_true rfl) inX6_writeFrom_X6 lkX6_writeFrom_3 rfl rfl ?_
          refine q_iload_n C 2 dX6_writeFrom_58 rfl ?_
          refine q_iast C 3 0 (fun fm_59 => List.flatten [tW cI cJ cZ cN cM ta ri rs gr fm_59 tt co le wa ar hd, nW cI cJ cZ cN cM na sz sa mo li lo he]) dX6_writeFrom_59 rfl rfl (fun _ => rfl) hf (fun fm_59 hf => ?_)
          refine q_aload_n C 0 dX6_writeFrom_60 rfl ?_
          refine q_get C 0 4 dX6_writeFrom_61 rfl rfl (Nat.le_of_ble_eq_true rfl) inX6_writeFrom_X6 lkX6_writeFrom_5 rfl rfl ?_
          refine q_aload_n C 0 dX6_writeFrom_64 rfl ?_
          refine q_get C 0 6 dX6_writeFrom_65 rfl rfl (Nat.le_of_ble_eq_true rfl) inX6_writeFrom_X6 lkX6_writeFrom_3 rfl rfl ?_
          refine q_iload C 4 dX6_writeFrom_68 rfl ?_
          refine q_iast C 4 0 (fun tt_70 => List.flatten [tW cI cJ cZ cN cM ta ri rs gr fm_59 tt_70 co le wa ar hd, nW cI cJ cZ cN cM na sz sa mo li lo he]) dX6_writeFrom_70 rfl rfl (fun _ => rfl) hf (fun tt_70 hf => ?_)
          refine q_aload_n C 0 dX6_writeFrom_71 rfl ?_
          refine q_get C 0 5 dX6_writeFrom_72 rfl rfl (Nat.le_of_ble_eq_true rfl) inX6_writeFrom_X6 lkX6_writeFrom_6 rfl rfl ?_
          refine q_aload_n C 0 dX6_writeFrom_75 rfl ?_
          refine q_get C 0 6 dX6_writeFrom_76 rfl rfl (Nat.le_of_ble_eq_true rfl) inX6_writeFrom_X6 lkX6_writeFrom_3 rfl rfl ?_
          refine q_aload_n C 1 dX6_writeFrom_79 rfl ?_
          refine q_get C 9 4 dX6_writeFrom_80 rfl rfl (Nat.le_of_ble_eq_true rfl) inX6_writeFrom_X3 lkX6_writeFrom_7 rfl rfl ?_
          refine q_iload_n C 2 dX6_writeFrom_83 rfl ?_
          refine q_iald C 11 0 dX6_writeFrom_84 rfl rfl hf (fun x84 hf => ?_)
          refine q_iload C 4 dX6_writeFrom_85 rfl ?_
          obtain ⟨x87, hM, hf⟩ := bd_e hf
          refine q_callSNI C (List.flatten [tW cI cJ cZ cN cM ta ri rs gr fm_59 tt_70 co le wa ar hd, nW cI cJ cZ cN cM na sz sa mo li lo he]) (kX7_isIn l D cI cJ cZ cN cM   x84 v4 x87 hM) ⟨va_cnB 2 C.1.2.2.2.2 gX6_writeFrom_X7_isIn_n67 rfl rfl rfl C.2.2.2.2.1 (C.1.2.2.2.2 _ lkX6_writeFrom_17) hdX7_isIn ⟨Nat.le_of_ble_eq_true rfl, Nat.le_of_ble_eq_true rfl⟩, C.1.2.2.2.2 _ lkX6_writeFrom_16, trivial⟩ FrX.none rfl rfl (Nat.le_of_ble_eq_true rfl) dX6_writeFrom_87 ⟨Nat.zero_le _, Nat.zero_le _⟩ ?_
          refine jn1_e (fun (t0_98 : Int32) => WW p l e rmX6_writeFrom s m args below meth c Q D A 5 0 0 (List.flatten [tW cI cJ cZ cN cM ta ri rs gr fm_59 tt_70 co le wa ar hd, nW cI cJ cZ cN cM na sz sa mo li lo he]) [(0, .ref (ta 0)), (1, .ref (na 0)), (2, .int v2), (3, .int v3), (4, .int v4)] 98 [.int t0_98, .int le, .ref (ta 5)]) hf ?_ ?_
          · intro t0_98 hf
            refine q_zast C 5 2 (fun co_98 => List.flatten [tW cI cJ cZ cN cM ta ri rs gr fm_59 tt_70 co_98 le wa ar hd, nW cI cJ cZ cN cM na sz sa mo li lo he]) dX6_writeFrom_98 rfl rfl (fun _ => rfl) hf (fun co_98 hf => ?_)
            refine q_aload_n C 0 dX6_writeFrom_99 rfl ?_
            refine q_dup C dX6_writeFrom_100 rfl ?_
            refine q_get C 0 6 dX6_writeFrom_101 rfl rfl (Nat.le_of_ble_eq_true rfl) inX6_writeFrom_X6 lkX6_writeFrom_3 rfl rfl ?_
            refine q_iconst C 1 dX6_writeFrom_104 (by decide) ?_
            refine q_iadd C dX6_writeFrom_105 ?_
            refine q_put C 0 6 (List.flatten [tW cI cJ cZ cN cM ta ri rs gr fm_59 tt_70 co_98 (le + (1 : Int32)) wa ar hd, nW cI cJ cZ cN cM na sz sa mo li lo he]) dX6_writeFrom_106 rfl rfl (Nat.le_of_ble_eq_true rfl) inX6_writeFrom_X6 tyX6 tyX6_ok nmX6 lkX6_writeFrom_3 rfl rfl rfl rfl (Nat.le_of_ble_eq_true rfl) rfl ?_
            exact J109 _ _ _ _ hf
          intro k98 J98 hf
          refine q_if_ne C 97 dX6_writeFrom_90 (by decide) hf (fun hf => ?_) (fun hf => ?_)
          · refine q_iconst C 0 dX6_writeFrom_97 (by decide) ?_
            exact J98 _ hf
          · refine q_iconst C 1 dX6_writeFrom_93 (by decide) ?_
            refine q_goto C 98 dX6_writeFrom_94 (by decide) ?_
            exact J98 _ hf
set_option maxRecDepth 100000 in
set_option maxHeartbeats 4000000 in
theorem kX6_writeFrom (l : Launch) (D : va_G) (cI cJ cZ cN cM : ClassId) (ta : Nat → Nat) (na : Nat → Nat) (ri : (Nat → Int32)) (rs : (Nat → Int32)) (gr : Int32) (fm : (Nat → Int32)) (tt : (Nat → Int32)) (co : (Nat → Int32)) (le : Int32) (wa : (Nat → Int32)) (ar : (Nat → Int32)) (hd : (Nat → Int64)) (sz : Int32) (sa : Int32) (mo : Int32) (li : (Nat → Int32)) (lo : (Nat → Int32)) (he : (Nat → Int32)) (v2 : Int32) (fm_o : (Nat → Int32)) (tt_o : (Nat → Int32)) (co_o : (Nat → Int32)) (le_o : Int32) (hf : fX6_writeFrom ri rs fm tt co le sz mo li lo v2 = some (fm_o, tt_o, co_o, le_o)) : MetV l yX6_writeFrom wsX6_writeFrom rmX6_writeFrom D (TYL cI cJ cZ cN cM) [.ref (ta 0), .ref (na 0), .int v2] (List.flatten [tW cI cJ cZ cN cM ta ri rs gr fm tt co le wa ar hd, nW cI cJ cZ cN cM na sz sa mo li lo he]) (List.flatten [tW cI cJ cZ cN cM ta ri rs gr fm_o tt_o co_o le_o wa ar hd, nW cI cJ cZ cN cM na sz sa mo li lo he]) := by
  refine MetV.mk (cc := cX6_writeFrom) (maxL := 5) (own := RX6) [(0, .ref (ta 0)), (1, .ref (na 0)), (2, .int v2)] (by decide +kernel) rfl rfl (Nat.le_of_ble_eq_true rfl) rfl ?_
  intro p e s m args below meth c A Q C hret
  unfold fX6_writeFrom at hf
  refine q_aload_n C 0 dX6_writeFrom_0 rfl ?_
  refine q_aload_n C 1 dX6_writeFrom_1 rfl ?_
  refine q_iload_n C 2 dX6_writeFrom_2 rfl ?_
  obtain ⟨x3, hM, hf⟩ := bd_e hf
  refine q_callVI C (List.flatten [tW cI cJ cZ cN cM ta ri rs gr fm tt co le wa ar hd, nW cI cJ cZ cN cM na sz sa mo li lo he]) (kX6_uppers l D cI cJ cZ cN cM ta na ri rs gr fm tt co le wa ar hd sz sa mo li lo he v2 x3 hM) (cwV 2 C.1.2.2.2.2 gX6_writeFrom_X6_uppers rfl rfl rfl hdX6_uppers ⟨Nat.le_of_ble_eq_true rfl, Nat.le_of_ble_eq_true rfl⟩) 0 5 rfl rfl FrX.all rfl rfl (Nat.le_of_ble_eq_true rfl) dX6_writeFrom_3 ⟨Nat.zero_le _, Nat.zero_le _⟩ ?_
  refine q_istore_n C [(3, .int x3), (0, .ref (ta 0)), (1, .ref (na 0)), (2, .int v2)] dX6_writeFrom_6 (by decide) rfl ?_
  refine q_aload_n C 2 dX6_writeFrom_7 rfl ?_
  refine q_get C 9 2 dX6_writeFrom_8 rfl rfl (Nat.le_of_ble_eq_true rfl) inX6_writeFrom_X3 lkX6_writeFrom_1 rfl rfl ?_
  refine q_iconst C 1 dX6_writeFrom_11 (by decide) ?_
  refine jn1_e (fun (u3_20 : Int32) => WW p l e rmX6_writeFrom s m args below meth c Q D A 5 0 0 (List.flatten [tW cI cJ cZ cN cM ta ri rs gr fm tt co le wa ar hd, nW cI cJ cZ cN cM na sz sa mo li lo he]) [(0, .ref (ta 0)), (1, .ref (na 0)), (2, .int v2), (3, .int u3_20)] 20 []) hf ?_ ?_
  · intro u3_20 hf
    refine q_iconst C 0 dX6_writeFrom_20 (by decide) ?_
    refine q_istore C [(4, .int (0 : Int32)), (0, .ref (ta 0)), (1, .ref (na 0)), (2, .int v2), (3, .int u3_20)] dX6_writeFrom_21 (by decide) rfl ?_
    obtain ⟨fm_23, tt_23, co_23, le_23, hL, hf⟩ := bd4_e hf
    refine q_lv [(0, .ref (ta 0)), (1, .ref (na 0)), (2, .int v2), (3, .int u3_20), (4, .int (0 : Int32))] [1, 2, 3, 4, 0] rfl ?_
    refine wX6_writeFrom_L23 C ta na ri rs gr wa ar hd sz sa mo li lo he v2 u3_20 fm_23 tt_23 co_23 le_23 ?_ 300 _ _ _ _ _ hL
    have hy0 := Option.some.inj hf
    clear hf
    obtain ⟨hz1, hy1⟩ := Prod.mk.inj hy0
    clear hy0
    obtain ⟨hz2, hy2⟩ := Prod.mk.inj hy1
    clear hy1
    obtain ⟨hz3, hy3⟩ := Prod.mk.inj hy2
    clear hy2
    subst hz1
    subst hz2
    subst hz3
    subst hy3
    exact hret _ _ dX6_writeFrom_115
  intro k20 J20 hf
  refine q_icmp_ne C 20 dX6_writeFrom_12 (by decide) hf (fun hf => ?_) (fun hf => ?_)
  · refine q_lv [(0, .ref (ta 0)), (1, .ref (na 0)), (2, .int v2), (3, .int x3)] [1, 2, 3, 0] rfl ?_
    exact J20 _ hf
  · refine q_iload_n C 0 dX6_writeFrom_15 rfl ?_
    refine q_iload_n C 0 dX6_writeFrom_16 rfl ?_
    refine q_ineg C dX6_writeFrom_17 ?_
    refine q_iand C dX6_writeFrom_18 ?_
    refine q_istore_n C [(3, .int (x3 &&& (-x3))), (0, .ref (ta 0)), (1, .ref (na 0)), (2, .int v2)] dX6_writeFrom_19 (by decide) rfl ?_
    refine q_lv [(0, .ref (ta 0)), (1, .ref (na 0)), (2, .int v2), (3, .int (x3 &&& (-x3)))] [1, 2, 3, 0] rfl ?_
    exact J20 _ hf

theorem lkX6_writeLetters_1 : Cond.fieldLink RX6 74 "TwiceHeard$Telling" "letters" "I" ∈ wsX6_writeLetters := List.mem_of_getElem? (i := 1) rfl
theorem lkX6_writeLetters_2 : Cond.fieldLink RX6 54 "TwiceHeard$Telling" "greatestRing" "I" ∈ wsX6_writeLetters := List.mem_of_getElem? (i := 2) rfl
theorem lkX6_writeLetters_3 : Cond.fieldLink RX6 62 "TwiceHeard$Net" "size" "I" ∈ wsX6_writeLetters := List.mem_of_getElem? (i := 3) rfl
theorem lkX6_writeLetters_4 : Cond.fieldLink RX6 9 "TwiceHeard$Telling" "ring" "[I" ∈ wsX6_writeLetters := List.mem_of_getElem? (i := 4) rfl
theorem inX6_writeLetters_X6 : ∀ w ∈ wsX60, w ∈ wsX6_writeLetters := fun w h => List.mem_cons_of_mem _ (List.mem_append_left _ (List.mem_append_right _ h))
theorem inX6_writeLetters_X3 : ∀ w ∈ wsX30, w ∈ wsX6_writeLetters := fun w h => List.mem_cons_of_mem _ (List.mem_append_right _ h)
abbrev rmX6_writeLetters : Room := { frames := 2, cells := 0, slots := 0, locals := 46 }
theorem hdX6_writeLetters : yX6_writeLetters.cls = RX6 ∧ yX6_writeLetters.cls ≠ "java/lang/invoke/MethodHandle" ∧ yX6_writeLetters.cls ≠ "java/lang/invoke/VarHandle" ∧ (parseMethodDescriptor yX6_writeLetters.desc).map (fun d => d.parameters.length) = some 1 := by decide +kernel
def fX6_writeLetters_L17 (ri : (Nat → Int32)) (rs : (Nat → Int32)) (sz : Int32) (mo : Int32) (li : (Nat → Int32)) (lo : (Nat → Int32)) (v2 : Int32) : Nat → Int32 → (Nat → Int32) → (Nat → Int32) → (Nat → Int32) → Int32 → Option ((Nat → Int32) × (Nat → Int32) × (Nat → Int32) × Int32)
  | 0, _, _, _, _, _ => none
  | n + 1, v3, fm, tt, co, le =>
  if sz ≤ v3 then (
  some (fm, tt, co, le)) else (
  (rdI 9 ri v3).bind fun x30 =>
  jn4 (fun (fm_41 : (Nat → Int32)) (tt_41 : (Nat → Int32)) (co_41 : (Nat → Int32)) (le_41 : Int32) => 
  fX6_writeLetters_L17 ri rs sz mo li lo v2 n (v3 + 1) fm_41 tt_41 co_41 le_41) fun k41 =>
  if x30 = v2 then (
  bd4 (fX6_writeFrom ri rs fm tt co le sz mo li lo v3) fun fm_38 tt_38 co_38 le_38 =>
  k41 fm_38 tt_38 co_38 le_38) else (
  k41 fm tt co le))
def fX6_writeLetters_L10 (ri : (Nat → Int32)) (rs : (Nat → Int32)) (sz : Int32) (mo : Int32) (li : (Nat → Int32)) (lo : (Nat → Int32)) : Nat → Int32 → (Nat → Int32) → (Nat → Int32) → (Nat → Int32) → Int32 → Option ((Nat → Int32) × (Nat → Int32) × (Nat → Int32) × Int32)
  | 0, _, _, _, _, _ => none
  | n + 1, v2, fm, tt, co, le =>
  if v2 < (1 : Int32) then (
  some (fm, tt, co, le)) else (
  bd4 (fX6_writeLetters_L17 ri rs sz mo li lo v2 300 (0 : Int32) fm tt co le) fun fm_17 tt_17 co_17 le_17 =>
  fX6_writeLetters_L10 ri rs sz mo li lo n (v2 + (-1)) fm_17 tt_17 co_17 le_17)
def fX6_writeLetters (ri : (Nat → Int32)) (rs : (Nat → Int32)) (gr : Int32) (fm : (Nat → Int32)) (tt : (Nat → Int32)) (co : (Nat → Int32)) (le : Int32) (sz : Int32) (mo : Int32) (li : (Nat → Int32)) (lo : (Nat → Int32))  : Option ((Nat → Int32) × (Nat → Int32) × (Nat → Int32) × Int32) :=
  bd4 (fX6_writeLetters_L10 ri rs sz mo li lo 300 gr fm tt co (0 : Int32)) fun fm_10 tt_10 co_10 le_10 =>
  some (fm_10, tt_10, co_10, le_10)
set_option maxRecDepth 100000 in
set_option maxHeartbeats 4000000 in
theorem wX6_writeLetters_L17 {p : Program} {l : Launch} {e : Env} {s : State} {m : MethodId} {args : Array Value} {below : List Frame} {meth : Method} {c : Code} {Q : State → Prop} {D : va_G} {A : Nat → Prop} {cI cJ cZ cN cM : ClassId} (C : Cx p s m args c cX6_writeLetters 4 RX6 wsX6_writeLetters D (TYL cI cJ cZ cN cM) A) (ta : Nat → Nat) (na : Nat → Nat) (ri : (Nat → Int32)) (rs : (Nat → Int32)) (gr : Int32) (wa : (Nat → Int32)) (ar : (Nat → Int32)) (hd : (Nat → Int64)) (sz : Int32) (sa : Int32) (mo : Int32) (li : (Nat → Int32)) (lo : (Nat → Int32)) (he : (Nat → Int32)) (v2 : Int32) (fm_o : (Nat → Int32)) (tt_o : (Nat → Int32)) (co_o : (Nat → Int32)) (le_o : Int32) (kk : WW p l e rmX6_writeLetters s m args below meth c Q D A 4 0 0 (List.flatten [tW cI cJ cZ cN cM ta ri rs gr fm_o tt_o co_o le_o wa ar hd, nW cI cJ cZ cN cM na sz sa mo li lo he]) [(0, .ref (ta 0)), (1, .ref (na 0)), (2, .int v2)] 47 []) : ∀ (n : Nat) (v3 : Int32) (fm : (Nat → Int32)) (tt : (Nat → Int32)) (co : (Nat → Int32)) (le : Int32), fX6_writeLetters_L17 ri rs sz mo li lo v2 n v3 fm tt co le = some (fm_o, tt_o, co_o, le_o) → WW p l e rmX6_writeLetters s m args below meth c Q D A 4 0 0 (List.flatten [tW cI cJ cZ cN cM ta ri rs gr fm tt co le wa ar hd, nW cI cJ cZ cN cM na sz sa mo li lo he]) [(0, .ref (ta 0)), (1, .ref (na 0)), (2, .int v2), (3, .int v3)] 17 [] := by
  intro n
  induction n with
  | zero =>
    intro v3 fm tt co le hf
    rw [fX6_writeLetters_L17] at hf
    cases hf
  | succ n ih =>
    intro v3 fm tt co le hf
    rw [fX6_writeLetters_L17] at hf
    refine q_iload_n C 3 dX6_writeLetters_17 rfl ?_
    refine q_aload_n C 1 dX6_writeLetters_18 rfl ?_
    refine q_get C 9 0 dX6_writeLetters_19 rfl rfl (Nat.le_of_ble_eq_true rfl) inX6_writeLetters_X3 lkX6_writeLetters_3 rfl rfl ?_
    refine q_icmp_ge C 47 dX6_writeLetters_22 (by decide) hf (fun hf => ?_) (fun hf => ?_)
    · refine q_lv [(0, .ref (ta 0)), (1, .ref (na 0)), (2, .int v2)] [0, 1, 2] rfl ?_
      have hy0 := Option.some.inj hf
      clear hf
      obtain ⟨hz1, hy1⟩ := Prod.mk.inj hy0
      clear hy0
      obtain ⟨hz2, hy2⟩ := Prod.mk.inj hy1
      clear hy1
      obtain ⟨hz3, hy3⟩ := Prod.mk.inj hy2
      clear hy2
      subst hz1
      subst hz2
      subst hz3
      subst hy3
      exact kk
    · refine q_aload_n C 0 dX6_writeLetters_25 rfl ?_
      refine q_get C 0 0 dX6_writeLetters_26 rfl rfl (Nat.le_of_ble_eq_true rfl) inX6_writeLetters_X6 lkX6_writeLetters_4 rfl rfl ?_
      refine q_iload_n C 3 dX6_writeLetters_29 rfl ?_
      refine q_iald C 1 0 dX6_writeLetters_30 rfl rfl hf (fun x30 hf => ?_)
      refine q_iload_n C 2 dX6_writeLetters_31 rfl ?_
      refine jn4_e (fun (fm_41 : (Nat → Int32)) (tt_41 : (Nat → Int32)) (co_41 : (Nat → Int32)) (le_41 : Int32) => WW p l e rmX6_writeLetters s m args below meth c Q D A 4 0 0 (List.flatten [tW cI cJ cZ cN cM ta ri rs gr fm_41 tt_41 co_41 le_41 wa ar hd, nW cI cJ cZ cN cM na sz sa mo li lo he]) [(0, .ref (ta 0)), (1, .ref (na 0)), (2, .int v2), (3, .int v3)] 41 []) hf ?_ ?_
      · intro fm_41 tt_41 co_41 le_41 hf
        refine q_iinc C (v3 + 1) 3 [(3, .int (v3 + 1)), (0, .ref (ta 0)), (1, .ref (na 0)), (2, .int v2)] dX6_writeLetters_41 rfl rfl (by decide) rfl ?_
        refine q_goto C 17 dX6_writeLetters_44 (by decide) ?_
        refine q_lv [(0, .ref (ta 0)), (1, .ref (na 0)), (2, .int v2), (3, .int (v3 + 1))] [1, 2, 3, 0] rfl ?_
        exact ih _ _ _ _ _ hf
      intro k41 J41 hf
      refine q_icmp_ne C 41 dX6_writeLetters_32 (by decide) hf (fun hf => ?_) (fun hf => ?_)
      · exact J41 _ _ _ _ hf
      · refine q_aload_n C 0 dX6_writeLetters_35 rfl ?_
        refine q_aload_n C 1 dX6_writeLetters_36 rfl ?_
        refine q_iload_n C 3 dX6_writeLetters_37 rfl ?_
        obtain ⟨fm_38, tt_38, co_38, le_38, hM, hf⟩ := bd4_e hf
        refine q_callVV C (List.flatten [tW cI cJ cZ cN cM ta ri rs gr fm_38 tt_38 co_38 le_38 wa ar hd, nW cI cJ cZ cN cM na sz sa mo li lo he]) (kX6_writeFrom l D cI cJ cZ cN cM ta na ri rs gr fm tt co le wa ar hd sz sa mo li lo he v3 fm_38 tt_38 co_38 le_38 hM) (cwV 2 C.1.2.2.2.2 gX6_writeLetters_X6_writeFrom rfl rfl rfl hdX6_writeFrom ⟨Nat.le_of_ble_eq_true rfl, Nat.le_of_ble_eq_true rfl⟩) 0 5 rfl rfl FrX.all rfl rfl (Nat.le_of_ble_eq_true rfl) dX6_writeLetters_38 ⟨Nat.zero_le _, Nat.zero_le _⟩ ?_
        exact J41 _ _ _ _ hf
set_option maxRecDepth 100000 in
set_option maxHeartbeats 4000000 in
theorem wX6_writeLetters_L10 {p : Program} {l : Launch} {e : Env} {s : State} {m : MethodId} {args : Array Value} {below : List Frame} {meth : Method} {c : Code} {Q : State → Prop} {D : va_G} {A : Nat → Prop} {cI cJ cZ cN cM : ClassId} (C : Cx p s m args c cX6_writeLetters 4 RX6 wsX6_writeLetters D (TYL cI cJ cZ cN cM) A) (ta : Nat → Nat) (na : Nat → Nat) (ri : (Nat → Int32)) (rs : (Nat → Int32)) (gr : Int32) (wa : (Nat → Int32)) (ar : (Nat → Int32)) (hd : (Nat → Int64)) (sz : Int32) (sa : Int32) (mo : Int32) (li : (Nat → Int32)) (lo : (Nat → Int32)) (he : (Nat → Int32))  (fm_o : (Nat → Int32)) (tt_o : (Nat → Int32)) (co_o : (Nat → Int32)) (le_o : Int32) (kk : WW p l e rmX6_writeLetters s m args below meth c Q D A 4 0 0 (List.flatten [tW cI cJ cZ cN cM ta ri rs gr fm_o tt_o co_o le_o wa ar hd, nW cI cJ cZ cN cM na sz sa mo li lo he]) [] 53 []) : ∀ (n : Nat) (v2 : Int32) (fm : (Nat → Int32)) (tt : (Nat → Int32)) (co : (Nat → Int32)) (le : Int32), fX6_writeLetters_L10 ri rs sz mo li lo n v2 fm tt co le = some (fm_o, tt_o, co_o, le_o) → WW p l e rmX6_writeLetters s m args below meth c Q D A 4 0 0 (List.flatten [tW cI cJ cZ cN cM ta ri rs gr fm tt co le wa ar hd, nW cI cJ cZ cN cM na sz sa mo li lo he]) [(0, .ref (ta 0)), (1, .ref (na 0)), (2, .int v2)] 10 [] := by
  intro n
  induction n with
  | zero =>
    intro v2 fm tt co le hf
    rw [fX6_writeLetters_L10] at hf
    cases hf
  | succ n ih =>
    intro v2 fm tt co le hf
    rw [fX6_writeLetters_L10] at hf
    refine q_iload_n C 2 dX6_writeLetters_10 rfl ?_
    refine q_iconst C 1 dX6_writeLetters_11 (by decide) ?_
    refine q_icmp_lt C 53 dX6_writeLetters_12 (by decide) hf (fun hf => ?_) (fun hf => ?_)
    · refine q_lv [] [] rfl ?_
      have hy0 := Option.some.inj hf
      clear hf
      obtain ⟨hz1, hy1⟩ := Prod.mk.inj hy0
      clear hy0
      obtain ⟨hz2, hy2⟩ := Prod.mk.inj hy1
      clear hy1
      obtain ⟨hz3, hy3⟩ := Prod.mk.inj hy2
      clear hy2
      subst hz1
      subst hz2
      subst hz3
      subst hy3
      exact kk
    · refine q_iconst C 0 dX6_writeLetters_15 (by decide) ?_
      refine q_istore_n C [(3, .int (0 : Int32)), (0, .ref (ta 0)), (1, .ref (na 0)), (2, .int v2)] dX6_writeLetters_16 (by decide) rfl ?_
      obtain ⟨fm_17, tt_17, co_17, le_17, hL, hf⟩ := bd4_e hf
      refine q_lv [(0, .ref (ta 0)), (1, .ref (na 0)), (2, .int v2), (3, .int (0 : Int32))] [1, 2, 3, 0] rfl ?_
      refine wX6_writeLetters_L17 C ta na ri rs gr wa ar hd sz sa mo li lo he v2 fm_17 tt_17 co_17 le_17 ?_ 300 _ _ _ _ _ hL
      refine q_iinc C (v2 + (-1)) 2 [(2, .int (v2 + (-1))), (0, .ref (ta 0)), (1, .ref (na 0))] dX6_writeLetters_47 rfl rfl (by decide) rfl ?_
      refine q_goto C 10 dX6_writeLetters_50 (by decide) ?_
      refine q_lv [(0, .ref (ta 0)), (1, .ref (na 0)), (2, .int (v2 + (-1)))] [1, 2, 0] rfl ?_
      exact ih _ _ _ _ _ hf
set_option maxRecDepth 100000 in
set_option maxHeartbeats 4000000 in
theorem kX6_writeLetters (l : Launch) (D : va_G) (cI cJ cZ cN cM : ClassId) (ta : Nat → Nat) (na : Nat → Nat) (ri : (Nat → Int32)) (rs : (Nat → Int32)) (gr : Int32) (fm : (Nat → Int32)) (tt : (Nat → Int32)) (co : (Nat → Int32)) (le : Int32) (wa : (Nat → Int32)) (ar : (Nat → Int32)) (hd : (Nat → Int64)) (sz : Int32) (sa : Int32) (mo : Int32) (li : (Nat → Int32)) (lo : (Nat → Int32)) (he : (Nat → Int32))  (fm_o : (Nat → Int32)) (tt_o : (Nat → Int32)) (co_o : (Nat → Int32)) (le_o : Int32) (hf : fX6_writeLetters ri rs gr fm tt co le sz mo li lo = some (fm_o, tt_o, co_o, le_o)) : MetV l yX6_writeLetters wsX6_writeLetters rmX6_writeLetters D (TYL cI cJ cZ cN cM) [.ref (ta 0), .ref (na 0)] (List.flatten [tW cI cJ cZ cN cM ta ri rs gr fm tt co le wa ar hd, nW cI cJ cZ cN cM na sz sa mo li lo he]) (List.flatten [tW cI cJ cZ cN cM ta ri rs gr fm_o tt_o co_o le_o wa ar hd, nW cI cJ cZ cN cM na sz sa mo li lo he]) := by
  refine MetV.mk (cc := cX6_writeLetters) (maxL := 4) (own := RX6) [(0, .ref (ta 0)), (1, .ref (na 0))] (by decide +kernel) rfl rfl (Nat.le_of_ble_eq_true rfl) rfl ?_
  intro p e s m args below meth c A Q C hret
  unfold fX6_writeLetters at hf
  refine q_aload_n C 0 dX6_writeLetters_0 rfl ?_
  refine q_iconst C 0 dX6_writeLetters_1 (by decide) ?_
  refine q_put C 0 6 (List.flatten [tW cI cJ cZ cN cM ta ri rs gr fm tt co (0 : Int32) wa ar hd, nW cI cJ cZ cN cM na sz sa mo li lo he]) dX6_writeLetters_2 rfl rfl (Nat.le_of_ble_eq_true rfl) inX6_writeLetters_X6 tyX6 tyX6_ok nmX6 lkX6_writeLetters_1 rfl rfl rfl rfl (Nat.le_of_ble_eq_true rfl) rfl ?_
  refine q_aload_n C 0 dX6_writeLetters_5 rfl ?_
  refine q_get C 0 2 dX6_writeLetters_6 rfl rfl (Nat.le_of_ble_eq_true rfl) inX6_writeLetters_X6 lkX6_writeLetters_2 rfl rfl ?_
  refine q_istore_n C [(2, .int gr), (0, .ref (ta 0)), (1, .ref (na 0))] dX6_writeLetters_9 (by decide) rfl ?_
  obtain ⟨fm_10, tt_10, co_10, le_10, hL, hf⟩ := bd4_e hf
  refine q_lv [(0, .ref (ta 0)), (1, .ref (na 0)), (2, .int gr)] [1, 2, 0] rfl ?_
  refine wX6_writeLetters_L10 C ta na ri rs gr wa ar hd sz sa mo li lo he  fm_10 tt_10 co_10 le_10 ?_ 300 _ _ _ _ _ hL
  have hy0 := Option.some.inj hf
  clear hf
  obtain ⟨hz1, hy1⟩ := Prod.mk.inj hy0
  clear hy0
  obtain ⟨hz2, hy2⟩ := Prod.mk.inj hy1
  clear hy1
  obtain ⟨hz3, hy3⟩ := Prod.mk.inj hy2
  clear hy2
  subst hz1
  subst hz2
  subst hz3
  subst hy3
  exact hret _ _ dX6_writeLetters_53

theorem lkX6_countWays_1 : Cond.fieldLink RX6 28 "TwiceHeard$Telling" "ways" "[I" ∈ wsX6_countWays := List.mem_of_getElem? (i := 1) rfl
theorem lkX6_countWays_2 : Cond.fieldLink RX6 31 "TwiceHeard$Telling" "arrivals" "[I" ∈ wsX6_countWays := List.mem_of_getElem? (i := 2) rfl
theorem lkX6_countWays_3 : Cond.fieldLink RX6 74 "TwiceHeard$Telling" "letters" "I" ∈ wsX6_countWays := List.mem_of_getElem? (i := 3) rfl
theorem lkX6_countWays_4 : Cond.fieldLink RX6 24 "TwiceHeard$Telling" "comes" "[Z" ∈ wsX6_countWays := List.mem_of_getElem? (i := 4) rfl
theorem lkX6_countWays_5 : Cond.fieldLink RX6 18 "TwiceHeard$Telling" "from" "[I" ∈ wsX6_countWays := List.mem_of_getElem? (i := 5) rfl
theorem lkX6_countWays_6 : Cond.fieldLink RX6 21 "TwiceHeard$Telling" "to" "[I" ∈ wsX6_countWays := List.mem_of_getElem? (i := 6) rfl
theorem inX6_countWays_X6 : ∀ w ∈ wsX60, w ∈ wsX6_countWays := fun w h => List.mem_cons_of_mem _ (List.mem_append_right _ h)
abbrev rmX6_countWays : Room := { frames := 1, cells := 0, slots := 0, locals := 23 }
theorem hdX6_countWays : yX6_countWays.cls = RX6 ∧ yX6_countWays.cls ≠ "java/lang/invoke/MethodHandle" ∧ yX6_countWays.cls ≠ "java/lang/invoke/VarHandle" ∧ (parseMethodDescriptor yX6_countWays.desc).map (fun d => d.parameters.length) = some 0 := by decide +kernel
def fX6_countWays_L30 (fm : (Nat → Int32)) (tt : (Nat → Int32)) (co : (Nat → Int32)) : Nat → Int32 → (Nat → Int32) → (Nat → Int32) → Option ((Nat → Int32) × (Nat → Int32))
  | 0, _, _, _ => none
  | n + 1, v1, wa, ar =>
  if v1 < 0 then (
  some (wa, ar)) else (
  (rdI 36 co v1).bind fun x39 =>
  jn2 (fun (wa_83 : (Nat → Int32)) (ar_83 : (Nat → Int32)) => 
  fX6_countWays_L30 fm tt co n (v1 + (-1)) wa_83 ar_83) fun k83 =>
  if x39 = 0 then (
  k83 wa ar) else (
  (rdI 36 fm v1).bind fun x52 =>
  (rdI 9 wa x52).bind fun x54 =>
  (rdI 36 tt v1).bind fun x64 =>
  (rdI 9 wa x64).bind fun x65 =>
  (wrI 9 wa x52 (x54 + x65)).bind fun wa_67 =>
  (rdI 36 tt v1).bind fun x77 =>
  (rdI 9 ar x77).bind fun x79 =>
  (wrI 9 ar x77 (x79 + (1 : Int32))).bind fun ar_82 =>
  k83 wa_67 ar_82))
def fX6_countWays (fm : (Nat → Int32)) (tt : (Nat → Int32)) (co : (Nat → Int32)) (le : Int32) (wa : (Nat → Int32)) (ar : (Nat → Int32))  : Option ((Nat → Int32) × (Nat → Int32)) :=
  (fJ7_fill_53178 wa (0 : Int32)).bind fun wa_5 =>
  (fJ7_fill_53178 ar (0 : Int32)).bind fun ar_13 =>
  bd2 (fX6_countWays_L30 fm tt co 300 (le - (1 : Int32)) (upd wa_5 0 (1 : Int32)) ar_13) fun wa_30 ar_30 =>
  some (wa_30, ar_30)
set_option maxRecDepth 100000 in
set_option maxHeartbeats 4000000 in
theorem wX6_countWays_L30 {p : Program} {l : Launch} {e : Env} {s : State} {m : MethodId} {args : Array Value} {below : List Frame} {meth : Method} {c : Code} {Q : State → Prop} {D : va_G} {A : Nat → Prop} {cI cJ cZ cN cM : ClassId} (C : Cx p s m args c cX6_countWays 2 RX6 wsX6_countWays D (TYL cI cJ cZ cN cM) A) (ta : Nat → Nat) (ri : (Nat → Int32)) (rs : (Nat → Int32)) (gr : Int32) (fm : (Nat → Int32)) (tt : (Nat → Int32)) (co : (Nat → Int32)) (le : Int32) (hd : (Nat → Int64))  (wa_o : (Nat → Int32)) (ar_o : (Nat → Int32)) (kk : WW p l e rmX6_countWays s m args below meth c Q D A 2 0 0 (tW cI cJ cZ cN cM ta ri rs gr fm tt co le wa_o ar_o hd) [] 89 []) : ∀ (n : Nat) (v1 : Int32) (wa : (Nat → Int32)) (ar : (Nat → Int32)), fX6_countWays_L30 fm tt co n v1 wa ar = some (wa_o, ar_o) → WW p l e rmX6_countWays s m args below meth c Q D A 2 0 0 (tW cI cJ cZ cN cM ta ri rs gr fm tt co le wa ar hd) [(0, .ref (ta 0)), (1, .int v1)] 30 [] := by
  intro n
  induction n with
  | zero =>
    intro v1 wa ar hf
    rw [fX6_countWays_L30] at hf
    cases hf
  | succ n ih =>
    intro v1 wa ar hf
    rw [fX6_countWays_L30] at hf
    refine q_iload_n C 1 dX6_countWays_30 rfl ?_
    refine q_if_lt C 89 dX6_countWays_31 (by decide) hf (fun hf => ?_) (fun hf => ?_)
    · refine q_lv [] [] rfl ?_
      have hy0 := Option.some.inj hf
      clear hf
      obtain ⟨hz1, hy1⟩ := Prod.mk.inj hy0
      clear hy0
      subst hz1
      subst hy1
      exact kk
    · refine q_aload_n C 0 dX6_countWays_34 rfl ?_
      refine q_get C 0 5 dX6_countWays_35 rfl rfl (Nat.le_of_ble_eq_true rfl) inX6_countWays_X6 lkX6_countWays_4 rfl rfl ?_
      refine q_iload_n C 1 dX6_countWays_38 rfl ?_
      refine q_zald C 5 2 dX6_countWays_39 rfl rfl hf (fun x39 hf => ?_)
      refine jn2_e (fun (wa_83 : (Nat → Int32)) (ar_83 : (Nat → Int32)) => WW p l e rmX6_countWays s m args below meth c Q D A 2 0 0 (tW cI cJ cZ cN cM ta ri rs gr fm tt co le wa_83 ar_83 hd) [(0, .ref (ta 0)), (1, .int v1)] 83 []) hf ?_ ?_
      · intro wa_83 ar_83 hf
        refine q_iinc C (v1 + (-1)) 1 [(1, .int (v1 + (-1))), (0, .ref (ta 0))] dX6_countWays_83 rfl rfl (by decide) rfl ?_
        refine q_goto C 30 dX6_countWays_86 (by decide) ?_
        refine q_lv [(0, .ref (ta 0)), (1, .int (v1 + (-1)))] [1, 0] rfl ?_
        exact ih _ _ _ hf
      intro k83 J83 hf
      refine q_if_eq C 83 dX6_countWays_40 (by decide) hf (fun hf => ?_) (fun hf => ?_)
      · exact J83 _ _ hf
      · refine q_aload_n C 0 dX6_countWays_43 rfl ?_
        refine q_get C 0 7 dX6_countWays_44 rfl rfl (Nat.le_of_ble_eq_true rfl) inX6_countWays_X6 lkX6_countWays_1 rfl rfl ?_
        refine q_aload_n C 0 dX6_countWays_47 rfl ?_
        refine q_get C 0 3 dX6_countWays_48 rfl rfl (Nat.le_of_ble_eq_true rfl) inX6_countWays_X6 lkX6_countWays_5 rfl rfl ?_
        refine q_iload_n C 1 dX6_countWays_51 rfl ?_
        refine q_iald C 3 0 dX6_countWays_52 rfl rfl hf (fun x52 hf => ?_)
        refine q_dup2 C dX6_countWays_53 rfl rfl ?_
        refine q_iald C 6 0 dX6_countWays_54 rfl rfl hf (fun x54 hf => ?_)
        refine q_aload_n C 0 dX6_countWays_55 rfl ?_
        refine q_get C 0 7 dX6_countWays_56 rfl rfl (Nat.le_of_ble_eq_true rfl) inX6_countWays_X6 lkX6_countWays_1 rfl rfl ?_
        refine q_aload_n C 0 dX6_countWays_59 rfl ?_
        refine q_get C 0 4 dX6_countWays_60 rfl rfl (Nat.le_of_ble_eq_true rfl) inX6_countWays_X6 lkX6_countWays_6 rfl rfl ?_
        refine q_iload_n C 1 dX6_countWays_63 rfl ?_
        refine q_iald C 4 0 dX6_countWays_64 rfl rfl hf (fun x64 hf => ?_)
        refine q_iald C 6 0 dX6_countWays_65 rfl rfl hf (fun x65 hf => ?_)
        refine q_iadd C dX6_countWays_66 ?_
        refine q_iast C 6 0 (fun wa_67 => tW cI cJ cZ cN cM ta ri rs gr fm tt co le wa_67 ar hd) dX6_countWays_67 rfl rfl (fun _ => rfl) hf (fun wa_67 hf => ?_)
        refine q_aload_n C 0 dX6_countWays_68 rfl ?_
        refine q_get C 0 8 dX6_countWays_69 rfl rfl (Nat.le_of_ble_eq_true rfl) inX6_countWays_X6 lkX6_countWays_2 rfl rfl ?_
        refine q_aload_n C 0 dX6_countWays_72 rfl ?_
        refine q_get C 0 4 dX6_countWays_73 rfl rfl (Nat.le_of_ble_eq_true rfl) inX6_countWays_X6 lkX6_countWays_6 rfl rfl ?_
        refine q_iload_n C 1 dX6_countWays_76 rfl ?_
        refine q_iald C 4 0 dX6_countWays_77 rfl rfl hf (fun x77 hf => ?_)
        refine q_dup2 C dX6_countWays_78 rfl rfl ?_
        refine q_iald C 7 0 dX6_countWays_79 rfl rfl hf (fun x79 hf => ?_)
        refine q_iconst C 1 dX6_countWays_80 (by decide) ?_
        refine q_iadd C dX6_countWays_81 ?_
        refine q_iast C 7 0 (fun ar_82 => tW cI cJ cZ cN cM ta ri rs gr fm tt co le wa_67 ar_82 hd) dX6_countWays_82 rfl rfl (fun _ => rfl) hf (fun ar_82 hf => ?_)
        exact J83 _ _ hf
set_option maxRecDepth 100000 in
set_option maxHeartbeats 4000000 in
theorem kX6_countWays (l : Launch) (D : va_G) (cI cJ cZ cN cM : ClassId) (ta : Nat → Nat) (ri : (Nat → Int32)) (rs : (Nat → Int32)) (gr : Int32) (fm : (Nat → Int32)) (tt : (Nat → Int32)) (co : (Nat → Int32)) (le : Int32) (wa : (Nat → Int32)) (ar : (Nat → Int32)) (hd : (Nat → Int64))  (wa_o : (Nat → Int32)) (ar_o : (Nat → Int32)) (hf : fX6_countWays fm tt co le wa ar = some (wa_o, ar_o)) : MetV l yX6_countWays wsX6_countWays rmX6_countWays D (TYL cI cJ cZ cN cM) [.ref (ta 0)] (tW cI cJ cZ cN cM ta ri rs gr fm tt co le wa ar hd) (tW cI cJ cZ cN cM ta ri rs gr fm tt co le wa_o ar_o hd) := by
  refine MetV.mk (cc := cX6_countWays) (maxL := 2) (own := RX6) [(0, .ref (ta 0))] (by decide +kernel) rfl rfl (Nat.le_of_ble_eq_true rfl) rfl ?_
  intro p e s m args below meth c A Q C hret
  unfold fX6_countWays at hf
  refine q_aload_n C 0 dX6_countWays_0 rfl ?_
  refine q_get C 0 7 dX6_countWays_1 rfl rfl (Nat.le_of_ble_eq_true rfl) inX6_countWays_X6 lkX6_countWays_1 rfl rfl ?_
  refine q_iconst C 0 dX6_countWays_4 (by decide) ?_
  obtain ⟨wa_5, hM, hf⟩ := bd_e hf
  refine q_callSV C (tW cI cJ cZ cN cM ta ri rs gr fm tt co le wa_5 ar hd) (kJ7_fill_53178 l D cI cJ cZ cN cM (fun _ => ta 6) wa (0 : Int32) wa_5 hM) (va_cwS 2 C.1.2.2.2.2 gX6_countWays_J7_fill_53178 rfl rfl rfl hdJ7_fill_53178 ⟨Nat.le_of_ble_eq_true rfl, Nat.le_of_ble_eq_true rfl⟩) (FrX.ofB [6] [0, 1, 2, 3, 4, 5, 7, 8] [0, 1, 2, 3, 4, 5, 8, 6, 7] rfl rfl rfl rfl rfl rfl rfl) rfl rfl (Nat.le_of_ble_eq_true rfl) dX6_countWays_5 ⟨Nat.zero_le _, Nat.zero_le _⟩ ?_
  refine q_aload_n C 0 dX6_countWays_8 rfl ?_
  refine q_get C 0 8 dX6_countWays_9 rfl rfl (Nat.le_of_ble_eq_true rfl) inX6_countWays_X6 lkX6_countWays_2 rfl rfl ?_
  refine q_iconst C 0 dX6_countWays_12 (by decide) ?_
  obtain ⟨ar_13, hM, hf⟩ := bd_e hf
  refine q_callSV C (tW cI cJ cZ cN cM ta ri rs gr fm tt co le wa_5 ar_13 hd) (kJ7_fill_53178 l D cI cJ cZ cN cM (fun _ => ta 7) ar (0 : Int32) ar_13 hM) (va_cwS 2 C.1.2.2.2.2 gX6_countWays_J7_fill_53178 rfl rfl rfl hdJ7_fill_53178 ⟨Nat.le_of_ble_eq_true rfl, Nat.le_of_ble_eq_true rfl⟩) (FrX.ofB [7] [0, 1, 2, 3, 4, 5, 6, 8] [0, 1, 2, 3, 4, 5, 6, 8, 7] rfl rfl rfl rfl rfl rfl rfl) rfl rfl (Nat.le_of_ble_eq_true rfl) dX6_countWays_13 ⟨Nat.zero_le _, Nat.zero_le _⟩ ?_
  refine q_aload_n C 0 dX6_countWays_16 rfl ?_
  refine q_get C 0 7 dX6_countWays_17 rfl rfl (Nat.le_of_ble_eq_true rfl) inX6_countWays_X6 lkX6_countWays_1 rfl rfl ?_
  refine q_iconst C 0 dX6_countWays_20 (by decide) ?_
  refine q_iconst C 1 dX6_countWays_21 (by decide) ?_
  refine q_iastC C 6 0 (tW cI cJ cZ cN cM ta ri rs gr fm tt co le (upd wa_5 0 (1 : Int32)) ar_13 hd) dX6_countWays_22 rfl rfl (by unfold vp_in; decide) rfl ?_
  refine q_aload_n C 0 dX6_countWays_23 rfl ?_
  refine q_get C 0 6 dX6_countWays_24 rfl rfl (Nat.le_of_ble_eq_true rfl) inX6_countWays_X6 lkX6_countWays_3 rfl rfl ?_
  refine q_iconst C 1 dX6_countWays_27 (by decide) ?_
  refine q_isub C dX6_countWays_28 ?_
  refine q_istore_n C [(1, .int (le - (1 : Int32))), (0, .ref (ta 0))] dX6_countWays_29 (by decide) rfl ?_
  obtain ⟨wa_30, ar_30, hL, hf⟩ := bd2_e hf
  refine q_lv [(0, .ref (ta 0)), (1, .int (le - (1 : Int32)))] [1, 0] rfl ?_
  refine wX6_countWays_L30 C ta ri rs gr fm tt co le hd  wa_30 ar_30 ?_ 300 _ _ _ hL
  have hy0 := Option.some.inj hf
  clear hf
  obtain ⟨hz1, hy1⟩ := Prod.mk.inj hy0
  clear hy0
  subst hz1
  subst hy1
  exact hret _ _ dX6_countWays_89

theorem inX6_trace_X6 : ∀ w ∈ wsX60, w ∈ wsX6_trace := fun w h => List.mem_cons_of_mem _ (List.mem_append_left _ (List.mem_append_right _ h))
theorem inX6_trace_X3 : ∀ w ∈ wsX30, w ∈ wsX6_trace := fun w h => List.mem_cons_of_mem _ (List.mem_append_right _ h)
abbrev rmX6_trace : Room := { frames := 3, cells := 0, slots := 0, locals := 70 }
theorem hdX6_trace : yX6_trace.cls = RX6 ∧ yX6_trace.cls ≠ "java/lang/invoke/MethodHandle" ∧ yX6_trace.cls ≠ "java/lang/invoke/VarHandle" ∧ (parseMethodDescriptor yX6_trace.desc).map (fun d => d.parameters.length) = some 1 := by decide +kernel
def fX6_trace (ri : (Nat → Int32)) (rs : (Nat → Int32)) (gr : Int32) (fm : (Nat → Int32)) (tt : (Nat → Int32)) (co : (Nat → Int32)) (le : Int32) (wa : (Nat → Int32)) (ar : (Nat → Int32)) (sz : Int32) (mo : Int32) (li : (Nat → Int32)) (lo : (Nat → Int32))  : Option ((Nat → Int32) × (Nat → Int32) × Int32 × (Nat → Int32) × (Nat → Int32) × (Nat → Int32) × Int32 × (Nat → Int32) × (Nat → Int32)) :=
  bd3 (fX6_layRings ri rs gr sz li) fun ri_2 rs_2 gr_2 =>
  bd4 (fX6_writeLetters ri_2 rs_2 gr_2 fm tt co le sz mo li lo) fun fm_7 tt_7 co_7 le_7 =>
  bd2 (fX6_countWays fm_7 tt_7 co_7 le_7 wa ar) fun wa_11 ar_11 =>
  some (ri_2, rs_2, gr_2, fm_7, tt_7, co_7, le_7, wa_11, ar_11)
set_option maxRecDepth 100000 in
set_option maxHeartbeats 4000000 in
theorem kX6_trace (l : Launch) (D : va_G) (cI cJ cZ cN cM : ClassId) (ta : Nat → Nat) (na : Nat → Nat) (ri : (Nat → Int32)) (rs : (Nat → Int32)) (gr : Int32) (fm : (Nat → Int32)) (tt : (Nat → Int32)) (co : (Nat → Int32)) (le : Int32) (wa : (Nat → Int32)) (ar : (Nat → Int32)) (hd : (Nat → Int64)) (sz : Int32) (sa : Int32) (mo : Int32) (li : (Nat → Int32)) (lo : (Nat → Int32)) (he : (Nat → Int32))  (ri_o : (Nat → Int32)) (rs_o : (Nat → Int32)) (gr_o : Int32) (fm_o : (Nat → Int32)) (tt_o : (Nat → Int32)) (co_o : (Nat → Int32)) (le_o : Int32) (wa_o : (Nat → Int32)) (ar_o : (Nat → Int32)) (hf : fX6_trace ri rs gr fm tt co le wa ar sz mo li lo = some (ri_o, rs_o, gr_o, fm_o, tt_o, co_o, le_o, wa_o, ar_o)) : MetV l yX6_trace wsX6_trace rmX6_trace D (TYL cI cJ cZ cN cM) [.ref (ta 0), .ref (na 0)] (List.flatten [tW cI cJ cZ cN cM ta ri rs gr fm tt co le wa ar hd, nW cI cJ cZ cN cM na sz sa mo li lo he]) (List.flatten [tW cI cJ cZ cN cM ta ri_o rs_o gr_o fm_o tt_o co_o le_o wa_o ar_o hd, nW cI cJ cZ cN cM na sz sa mo li lo he]) := by
  refine MetV.mk (cc := cX6_trace) (maxL := 2) (own := RX6) [(0, .ref (ta 0)), (1, .ref (na 0))] (by decide +kernel) rfl rfl (Nat.le_of_ble_eq_true rfl) rfl ?_
  intro p e s m args below meth c A Q C hret
  unfold fX6_trace at hf
  refine q_aload_n C 0 dX6_trace_0 rfl ?_
  refine q_aload_n C 1 dX6_trace_1 rfl ?_
  obtain ⟨ri_2, rs_2, gr_2, hM, hf⟩ := bd3_e hf
  refine q_callVV C (List.flatten [tW cI cJ cZ cN cM ta ri_2 rs_2 gr_2 fm tt co le wa ar hd, nW cI cJ cZ cN cM na sz sa mo li lo he]) (kX6_layRings l D cI cJ cZ cN cM ta na ri rs gr fm tt co le wa ar hd sz sa mo li lo he  ri_2 rs_2 gr_2 hM) (cwV 1 C.1.2.2.2.2 gX6_trace_X6_layRings rfl rfl rfl hdX6_layRings ⟨Nat.le_of_ble_eq_true rfl, Nat.le_of_ble_eq_true rfl⟩) 0 5 rfl rfl FrX.all rfl rfl (Nat.le_of_ble_eq_true rfl) dX6_trace_2 ⟨Nat.zero_le _, Nat.zero_le _⟩ ?_
  refine q_aload_n C 0 dX6_trace_5 rfl ?_
  refine q_aload_n C 1 dX6_trace_6 rfl ?_
  obtain ⟨fm_7, tt_7, co_7, le_7, hM, hf⟩ := bd4_e hf
  refine q_callVV C (List.flatten [tW cI cJ cZ cN cM ta ri_2 rs_2 gr_2 fm_7 tt_7 co_7 le_7 wa ar hd, nW cI cJ cZ cN cM na sz sa mo li lo he]) (kX6_writeLetters l D cI cJ cZ cN cM ta na ri_2 rs_2 gr_2 fm tt co le wa ar hd sz sa mo li lo he  fm_7 tt_7 co_7 le_7 hM) (cwV 1 C.1.2.2.2.2 gX6_trace_X6_writeLetters rfl rfl rfl hdX6_writeLetters ⟨Nat.le_of_ble_eq_true rfl, Nat.le_of_ble_eq_true rfl⟩) 0 5 rfl rfl FrX.all rfl rfl (Nat.le_of_ble_eq_true rfl) dX6_trace_7 ⟨Nat.zero_le _, Nat.zero_le _⟩ ?_
  refine q_aload_n C 0 dX6_trace_10 rfl ?_
  obtain ⟨wa_11, ar_11, hM, hf⟩ := bd2_e hf
  refine q_callVV C (List.flatten [tW cI cJ cZ cN cM ta ri_2 rs_2 gr_2 fm_7 tt_7 co_7 le_7 wa_11 ar_11 hd, nW cI cJ cZ cN cM na sz sa mo li lo he]) (kX6_countWays l D cI cJ cZ cN cM ta ri_2 rs_2 gr_2 fm_7 tt_7 co_7 le_7 wa ar hd  wa_11 ar_11 hM) (cwV 0 C.1.2.2.2.2 gX6_trace_X6_countWays rfl rfl rfl hdX6_countWays ⟨Nat.le_of_ble_eq_true rfl, Nat.le_of_ble_eq_true rfl⟩) 0 5 rfl rfl (FrX.blk [tW cI cJ cZ cN cM ta ri_2 rs_2 gr_2 fm_7 tt_7 co_7 le_7 wa ar hd, nW cI cJ cZ cN cM na sz sa mo li lo he] [tW cI cJ cZ cN cM ta ri_2 rs_2 gr_2 fm_7 tt_7 co_7 le_7 wa_11 ar_11 hd, nW cI cJ cZ cN cM na sz sa mo li lo he] [0] [1] 2 rfl rfl (by decide) rfl (List.append_nil _) (List.append_nil _)) rfl rfl (Nat.le_of_ble_eq_true rfl) dX6_trace_11 ⟨Nat.zero_le _, Nat.zero_le _⟩ ?_
  have hy0 := Option.some.inj hf
  clear hf
  obtain ⟨hz1, hy1⟩ := Prod.mk.inj hy0
  clear hy0
  obtain ⟨hz2, hy2⟩ := Prod.mk.inj hy1
  clear hy1
  obtain ⟨hz3, hy3⟩ := Prod.mk.inj hy2
  clear hy2
  obtain ⟨hz4, hy4⟩ := Prod.mk.inj hy3
  clear hy3
  obtain ⟨hz5, hy5⟩ := Prod.mk.inj hy4
  clear hy4
  obtain ⟨hz6, hy6⟩ := Prod.mk.inj hy5
  clear hy5
  obtain ⟨hz7, hy7⟩ := Prod.mk.inj hy6
  clear hy6
  obtain ⟨hz8, hy8⟩ := Prod.mk.inj hy7
  clear hy7
  subst hz1
  subst hz2
  subst hz3
  subst hz4
  subst hz5
  subst hz6
  subst hz7
  subst hz8
  subst hy8
  exact hret _ _ dX6_trace_14

theorem lkX6_gather_1 : Cond.fieldLink RX6 62 "TwiceHeard$Net" "size" "I" ∈ wsX6_gather := List.mem_of_getElem? (i := 1) rfl
theorem lkX6_gather_2 : Cond.fieldLink RX6 34 "TwiceHeard$Telling" "held" "[J" ∈ wsX6_gather := List.mem_of_getElem? (i := 2) rfl
theorem lkX6_gather_3 : Cond.fieldLink RX6 9 "TwiceHeard$Telling" "ring" "[I" ∈ wsX6_gather := List.mem_of_getElem? (i := 3) rfl
theorem lkX6_gather_4 : Cond.constantLong RX6 91 (-1) ∈ wsX6_gather := List.mem_of_getElem? (i := 4) rfl
theorem lkX6_gather_5 : Cond.fieldLink RX6 93 "TwiceHeard$Net" "heard" "[I" ∈ wsX6_gather := List.mem_of_getElem? (i := 5) rfl
theorem lkX6_gather_6 : Cond.fieldLink RX6 96 "TwiceHeard$Net" "salt" "I" ∈ wsX6_gather := List.mem_of_getElem? (i := 6) rfl
theorem lkX6_gather_7 : Cond.fieldLink RX6 74 "TwiceHeard$Telling" "letters" "I" ∈ wsX6_gather := List.mem_of_getElem? (i := 7) rfl
theorem lkX6_gather_8 : Cond.fieldLink RX6 24 "TwiceHeard$Telling" "comes" "[Z" ∈ wsX6_gather := List.mem_of_getElem? (i := 8) rfl
theorem lkX6_gather_9 : Cond.fieldLink RX6 21 "TwiceHeard$Telling" "to" "[I" ∈ wsX6_gather := List.mem_of_getElem? (i := 9) rfl
theorem lkX6_gather_10 : Cond.fieldLink RX6 18 "TwiceHeard$Telling" "from" "[I" ∈ wsX6_gather := List.mem_of_getElem? (i := 10) rfl
theorem inX6_gather_X3 : ∀ w ∈ wsX30, w ∈ wsX6_gather := fun w h => List.mem_cons_of_mem _ (List.mem_append_left _ (List.mem_append_right _ h))
theorem inX6_gather_X6 : ∀ w ∈ wsX60, w ∈ wsX6_gather := fun w h => List.mem_cons_of_mem _ (List.mem_append_right _ h)
abbrev rmX6_gather : Room := { frames := 3, cells := 0, slots := 0, locals := 76 }
theorem hdX6_gather : yX6_gather.cls = RX6 ∧ yX6_gather.cls ≠ "java/lang/invoke/MethodHandle" ∧ yX6_gather.cls ≠ "java/lang/invoke/VarHandle" ∧ (parseMethodDescriptor yX6_gather.desc).map (fun d => d.parameters.length) = some 2 := by decide +kernel
def fX6_gather_L2 (ri : (Nat → Int32)) (sz : Int32) (sa : Int32) (he : (Nat → Int32)) (v2 : Int32) : Nat → Int32 → (Nat → Int64) → Option ((Nat → Int64))
  | 0, _, _ => none
  | n + 1, v3, hd =>
  if sz ≤ v3 then (
  some hd) else (
  (rdI 9 ri v3).bind fun x20 =>
  jn1 (fun (t0_45 : Int64) => 
  (wrL 9 hd v3 t0_45).bind fun hd_45 =>
  fX6_gather_L2 ri sz sa he v2 n (v3 + 1) hd_45) fun k45 =>
  if x20 = (-1 : Int32) then (
  k45 (-1 : Int64)) else (
  (rdI 9 he v3).bind fun x36 =>
  (fX5_ofItems x36 v2 sa).bind fun x42 =>
  k45 x42))
def fX6_gather_L54 (fm : (Nat → Int32)) (tt : (Nat → Int32)) (co : (Nat → Int32)) (le : Int32) (v2 : Int32) : Nat → Int32 → (Nat → Int64) → Option ((Nat → Int64))
  | 0, _, _ => none
  | n + 1, v3, hd =>
  if le ≤ v3 then (
  some hd) else (
  (rdI 36 co v3).bind fun x67 =>
  jn1 (fun (hd_108 : (Nat → Int64)) => 
  fX6_gather_L54 fm tt co le v2 n (v3 + 1) hd_108) fun k108 =>
  if x67 = 0 then (
  k108 hd) else (
  (rdI 36 tt v3).bind fun x80 =>
  (rdI 36 tt v3).bind fun x90 =>
  (rdL 9 hd x90).bind fun x91 =>
  (rdI 36 fm v3).bind fun x101 =>
  (rdL 9 hd x101).bind fun x102 =>
  (fX5_together x91 x102 v2).bind fun x104 =>
  (wrL 9 hd x80 x104).bind fun hd_107 =>
  k108 hd_107))
def fX6_gather (ri : (Nat → Int32)) (fm : (Nat → Int32)) (tt : (Nat → Int32)) (co : (Nat → Int32)) (le : Int32) (hd : (Nat → Int64)) (sz : Int32) (sa : Int32) (he : (Nat → Int32)) (v2 : Int32) : Option ((Nat → Int64)) :=
  (fX6_gather_L2 ri sz sa he v2 300 (0 : Int32) hd).bind fun hd_2 =>
  (fX6_gather_L54 fm tt co le v2 300 (0 : Int32) hd_2).bind fun hd_54 =>
  some hd_54
set_option maxRecDepth 100000 in
set_option maxHeartbeats 4000000 in
theorem wX6_gather_L2 {p : Program} {l : Launch} {e : Env} {s : State} {m : MethodId} {args : Array Value} {below : List Frame} {meth : Method} {c : Code} {Q : State → Prop} {D : va_G} {A : Nat → Prop} {cI cJ cZ cN cM : ClassId} (C : Cx p s m args c cX6_gather 4 RX6 wsX6_gather D (TYL cI cJ cZ cN cM) A) (ta : Nat → Nat) (na : Nat → Nat) (ri : (Nat → Int32)) (rs : (Nat → Int32)) (gr : Int32) (fm : (Nat → Int32)) (tt : (Nat → Int32)) (co : (Nat → Int32)) (le : Int32) (wa : (Nat → Int32)) (ar : (Nat → Int32)) (sz : Int32) (sa : Int32) (mo : Int32) (li : (Nat → Int32)) (lo : (Nat → Int32)) (he : (Nat → Int32)) (v2 : Int32) (hd_o : (Nat → Int64)) (kk : WW p l e rmX6_gather s m args below meth c Q D A 4 0 0 (List.flatten [tW cI cJ cZ cN cM ta ri rs gr fm tt co le wa ar hd_o, nW cI cJ cZ cN cM na sz sa mo li lo he]) [(0, .ref (ta 0)), (2, .int v2)] 52 []) : ∀ (n : Nat) (v3 : Int32) (hd : (Nat → Int64)), fX6_gather_L2 ri sz sa he v2 n v3 hd = some hd_o → WW p l e rmX6_gather s m args below meth c Q D A 4 0 0 (List.flatten [tW cI cJ cZ cN cM ta ri rs gr fm tt co le wa ar hd, nW cI cJ cZ cN cM na sz sa mo li lo he]) [(0, .ref (ta 0)), (1, .ref (na 0)), (2, .int v2), (3, .int v3)] 2 [] := by
  intro n
  induction n with
  | zero =>
    intro v3 hd hf
    rw [fX6_gather_L2] at hf
    cases hf
  | succ n ih =>
    intro v3 hd hf
    rw [fX6_gather_L2] at hf
    refine q_iload_n C 3 dX6_gather_2 rfl ?_
    refine q_aload_n C 1 dX6_gather_3 rfl ?_
    refine q_get C 9 0 dX6_gather_4 rfl rfl (Nat.le_of_ble_eq_true rfl) inX6_gather_X3 lkX6_gather_1 rfl rfl ?_
    refine q_icmp_ge C 52 dX6_gather_7 (by decide) hf (fun hf => ?_) (fun hf => ?_)
    · refine q_lv [(0, .ref (ta 0)), (2, .int v2)] [0, 2] rfl ?_
      have hz1 := Option.some.inj hf
      clear hf
      subst hz1
      exact kk
    · refine q_aload_n C 0 dX6_gather_10 rfl ?_
      refine q_get C 0 9 dX6_gather_11 rfl rfl (Nat.le_of_ble_eq_true rfl) inX6_gather_X6 lkX6_gather_2 rfl rfl ?_
      refine q_iload_n C 3 dX6_gather_14 rfl ?_
      refine q_aload_n C 0 dX6_gather_15 rfl ?_
      refine q_get C 0 0 dX6_gather_16 rfl rfl (Nat.le_of_ble_eq_true rfl) inX6_gather_X6 lkX6_gather_3 rfl rfl ?_
      refine q_iload_n C 3 dX6_gather_19 rfl ?_
      refine q_iald C 1 0 dX6_gather_20 rfl rfl hf (fun x20 hf => ?_)
      refine q_iconst C (-1) dX6_gather_21 (by decide) ?_
      refine jn1_e (fun (t0_45 : Int64) => WW p l e rmX6_gather s m args below meth c Q D A 4 0 0 (List.flatten [tW cI cJ cZ cN cM ta ri rs gr fm tt co le wa ar hd, nW cI cJ cZ cN cM na sz sa mo li lo he]) [(0, .ref (ta 0)), (1, .ref (na 0)), (2, .int v2), (3, .int v3)] 45 [.long t0_45, .int v3, .ref (ta 8)]) hf ?_ ?_
      · intro t0_45 hf
        refine q_last C 8 1 (fun hd_45 => List.flatten [tW cI cJ cZ cN cM ta ri rs gr fm tt co le wa ar hd_45, nW cI cJ cZ cN cM na sz sa mo li lo he]) dX6_gather_45 rfl rfl (fun _ => rfl) hf (fun hd_45 hf => ?_)
        refine q_iinc C (v3 + 1) 3 [(3, .int (v3 + 1)), (0, .ref (ta 0)), (1, .ref (na 0)), (2, .int v2)] dX6_gather_46 rfl rfl (by decide) rfl ?_
        refine q_goto C 2 dX6_gather_49 (by decide) ?_
        refine q_lv [(0, .ref (ta 0)), (1, .ref (na 0)), (2, .int v2), (3, .int (v3 + 1))] [1, 2, 3, 0] rfl ?_
        exact ih _ _ hf
      intro k45 J45 hf
      refine q_icmp_ne C 31 dX6_gather_22 (by decide) hf (fun hf => ?_) (fun hf => ?_)
      · refine q_aload_n C 1 dX6_gather_31 rfl ?_
        refine q_get C 9 5 dX6_gather_32 rfl rfl (Nat.le_of_ble_eq_true rfl) inX6_gather_X3 lkX6_gather_5 rfl rfl ?_
        refine q_iload_n C 3 dX6_gather_35 rfl ?_
        refine q_iald C 12 0 dX6_gather_36 rfl rfl hf (fun x36 hf => ?_)
        refine q_iload_n C 2 dX6_gather_37 rfl ?_
        refine q_aload_n C 1 dX6_gather_38 rfl ?_
        refine q_get C 9 1 dX6_gather_39 rfl rfl (Nat.le_of_ble_eq_true rfl) inX6_gather_X3 lkX6_gather_6 rfl rfl ?_
        obtain ⟨x42, hM, hf⟩ := bd_e hf
        refine q_callSL C (List.flatten [tW cI cJ cZ cN cM ta ri rs gr fm tt co le wa ar hd, nW cI cJ cZ cN cM na sz sa mo li lo he]) (kX5_ofItems l D cI cJ cZ cN cM   x36 v2 sa x42 hM) (va_cwS 3 C.1.2.2.2.2 gX6_gather_X5_ofItems rfl rfl rfl hdX5_ofItems ⟨Nat.le_of_ble_eq_true rfl, Nat.le_of_ble_eq_true rfl⟩) FrX.none rfl rfl (Nat.le_of_ble_eq_true rfl) dX6_gather_42 ⟨Nat.zero_le _, Nat.zero_le _⟩ ?_
        exact J45 _ hf
      · refine q_ldc2 C dX6_gather_25 lkX6_gather_4 ?_
        refine q_goto C 45 dX6_gather_28 (by decide) ?_
        exact J45 _ hf
set_option maxRecDepth 100000 in
set_option maxHeartbeats 4000000 in
theorem wX6_gather_L54 {p : Program} {l : Launch} {e : Env} {s : State} {m : MethodId} {args : Array Value} {below : List Frame} {meth : Method} {c : Code} {Q : State → Prop} {D : va_G} {A : Nat → Prop} {cI cJ cZ cN cM : ClassId} (C : Cx p s m args c cX6_gather 4 RX6 wsX6_gather D (TYL cI cJ cZ cN cM) A) (ta : Nat → Nat) (na : Nat → Nat) (ri : (Nat → Int32)) (rs : (Nat → Int32)) (gr : Int32) (fm : (Nat → Int32)) (tt : (Nat → Int32)) (co : (Nat → Int32)) (le : Int32) (wa : (Nat → Int32)) (ar : (Nat → Int32)) (sz : Int32) (sa : Int32) (mo : Int32) (li : (Nat → Int32)) (lo : (Nat → Int32)) (he : (Nat → Int32)) (v2 : Int32) (hd_o : (Nat → Int64)) (kk : WW p l e rmX6_gather s m args below meth c Q D A 4 0 0 (List.flatten [tW cI cJ cZ cN cM ta ri rs gr fm tt co le wa ar hd_o, nW cI cJ cZ cN cM na sz sa mo li lo he]) [] 114 []) : ∀ (n : Nat) (v3 : Int32) (hd : (Nat → Int64)), fX6_gather_L54 fm tt co le v2 n v3 hd = some hd_o → WW p l e rmX6_gather s m args below meth c Q D A 4 0 0 (List.flatten [tW cI cJ cZ cN cM ta ri rs gr fm tt co le wa ar hd, nW cI cJ cZ cN cM na sz sa mo li lo he]) [(0, .ref (ta 0)), (2, .int v2), (3, .int v3)] 54 [] := by
  intro n
  induction n with
  | zero =>
    intro v3 hd hf
    rw [fX6_gather_L54] at hf
    cases hf
  | succ n ih =>
    intro v3 hd hf
    rw [fX6_gather_L54] at hf
    refine q_iload_n C 2 dX6_gather_54 rfl ?_
    refine q_aload_n C 0 dX6_gather_55 rfl ?_
    refine q_get C 0 6 dX6_gather_56 rfl rfl (Nat.le_of_ble_eq_true rfl) inX6_gather_X6 lkX6_gather_7 rfl rfl ?_
    refine q_icmp_ge C 114 dX6_gather_59 (by decide) hf (fun hf => ?_) (fun hf => ?_)
    · refine q_lv [] [] rfl ?_
      have hz1 := Option.some.inj hf
      clear hf
      subst hz1
      exact kk
    · refine q_aload_n C 0 dX6_gather_62 rfl ?_
      refine q_get C 0 5 dX6_gather_63 rfl rfl (Nat.le_of_ble_eq_true rfl) inX6_gather_X6 lkX6_gather_8 rfl rfl ?_
      refine q_iload_n C 2 dX6_gather_66 rfl ?_
      refine q_zald C 5 2 dX6_gather_67 rfl rfl hf (fun x67 hf => ?_)
      refine jn1_e (fun (hd_108 : (Nat → Int64)) => WW p l e rmX6_gather s m args below meth c Q D A 4 0 0 (List.flatten [tW cI cJ cZ cN cM ta ri rs gr fm tt co le wa ar hd_108, nW cI cJ cZ cN cM na sz sa mo li lo he]) [(0, .ref (ta 0)), (2, .int v2), (3, .int v3)] 108 []) hf ?_ ?_
      · intro hd_108 hf
        refine q_iinc C (v3 + 1) 2 [(3, .int (v3 + 1)), (0, .ref (ta 0)), (2, .int v2)] dX6_gather_108 rfl rfl (by decide) rfl ?_
        refine q_goto C 54 dX6_gather_111 (by decide) ?_
        refine q_lv [(0, .ref (ta 0)), (2, .int v2), (3, .int (v3 + 1))] [1, 2, 0] rfl ?_
        exact ih _ _ hf
      intro k108 J108 hf
      refine q_if_eq C 108 dX6_gather_68 (by decide) hf (fun hf => ?_) (fun hf => ?_)
      · exact J108 _ hf
      · refine q_aload_n C 0 dX6_gather_71 rfl ?_
        refine q_get C 0 9 dX6_gather_72 rfl rfl (Nat.le_of_ble_eq_true rfl) inX6_gather_X6 lkX6_gather_2 rfl rfl ?_
        refine q_aload_n C 0 dX6_gather_75 rfl ?_
        refine q_get C 0 4 dX6_gather_76 rfl rfl (Nat.le_of_ble_eq_true rfl) inX6_gather_X6 lkX6_gather_9 rfl rfl ?_
        refine q_iload_n C 2 dX6_gather_79 rfl ?_
        refine q_iald C 4 0 dX6_gather_80 rfl rfl hf (fun x80 hf => ?_)
        refine q_aload_n C 0 dX6_gather_81 rfl ?_
        refine q_get C 0 9 dX6_gather_82 rfl rfl (Nat.le_of_ble_eq_true rfl) inX6_gather_X6 lkX6_gather_2 rfl rfl ?_
        refine q_aload_n C 0 dX6_gather_85 rfl ?_
        refine q_get C 0 4 dX6_gather_86 rfl rfl (Nat.le_of_ble_eq_true rfl) inX6_gather_X6 lkX6_gather_9 rfl rfl ?_
        refine q_iload_n C 2 dX6_gather_89 rfl ?_
        refine q_iald C 4 0 dX6_gather_90 rfl rfl hf (fun x90 hf => ?_)
        refine q_lald C 8 1 dX6_gather_91 rfl rfl hf (fun x91 hf => ?_)
        refine q_aload_n C 0 dX6_gather_92 rfl ?_
        refine q_get C 0 9 dX6_gather_93 rfl rfl (Nat.le_of_ble_eq_true rfl) inX6_gather_X6 lkX6_gather_2 rfl rfl ?_
        refine q_aload_n C 0 dX6_gather_96 rfl ?_
        refine q_get C 0 3 dX6_gather_97 rfl rfl (Nat.le_of_ble_eq_true rfl) inX6_gather_X6 lkX6_gather_10 rfl rfl ?_
        refine q_iload_n C 2 dX6_gather_100 rfl ?_
        refine q_iald C 3 0 dX6_gather_101 rfl rfl hf (fun x101 hf => ?_)
        refine q_lald C 8 1 dX6_gather_102 rfl rfl hf (fun x102 hf => ?_)
        refine q_iload_n C 1 dX6_gather_103 rfl ?_
        obtain ⟨x104, hM, hf⟩ := bd_e hf
        refine q_callSL C (List.flatten [tW cI cJ cZ cN cM ta ri rs gr fm tt co le wa ar hd, nW cI cJ cZ cN cM na sz sa mo li lo he]) (kX5_together l D cI cJ cZ cN cM   x91 x102 v2 x104 hM) (va_cwS 3 C.1.2.2.2.2 gX6_gather_X5_together rfl rfl rfl hdX5_together ⟨Nat.le_of_ble_eq_true rfl, Nat.le_of_ble_eq_true rfl⟩) FrX.none rfl rfl (Nat.le_of_ble_eq_true rfl) dX6_gather_104 ⟨Nat.zero_le _, Nat.zero_le _⟩ ?_
        refine q_last C 8 1 (fun hd_107 => List.flatten [tW cI cJ cZ cN cM ta ri rs gr fm tt co le wa ar hd_107, nW cI cJ cZ cN cM na sz sa mo li lo he]) dX6_gather_107 rfl rfl (fun _ => rfl) hf (fun hd_107 hf => ?_)
        exact J108 _ hf
set_option maxRecDepth 100000 in
set_option maxHeartbeats 4000000 in
theorem kX6_gather (l : Launch) (D : va_G) (cI cJ cZ cN cM : ClassId) (ta : Nat → Nat) (na : Nat → Nat) (ri : (Nat → Int32)) (rs : (Nat → Int32)) (gr : Int32) (fm : (Nat → Int32)) (tt : (Nat → Int32)) (co : (Nat → Int32)) (le : Int32) (wa : (Nat → Int32)) (ar : (Nat → Int32)) (hd : (Nat → Int64)) (sz : Int32) (sa : Int32) (mo : Int32) (li : (Nat → Int32)) (lo : (Nat → Int32)) (he : (Nat → Int32)) (v2 : Int32) (hd_o : (Nat → Int64)) (hf : fX6_gather ri fm tt co le hd sz sa he v2 = some hd_o) : MetV l yX6_gather wsX6_gather rmX6_gather D (TYL cI cJ cZ cN cM) [.ref (ta 0), .ref (na 0), .int v2] (List.flatten [tW cI cJ cZ cN cM ta ri rs gr fm tt co le wa ar hd, nW cI cJ cZ cN cM na sz sa mo li lo he]) (List.flatten [tW cI cJ cZ cN cM ta ri rs gr fm tt co le wa ar hd_o, nW cI cJ cZ cN cM na sz sa mo li lo he]) := by
  refine MetV.mk (cc := cX6_gather) (maxL := 4) (own := RX6) [(0, .ref (ta 0)), (1, .ref (na 0)), (2, .int v2)] (by decide +kernel) rfl rfl (Nat.le_of_ble_eq_true rfl) rfl ?_
  intro p e s m args below meth c A Q C hret
  unfold fX6_gather at hf
  refine q_iconst C 0 dX6_gather_0 (by decide) ?_
  refine q_istore_n C [(3, .int (0 : Int32)), (0, .ref (ta 0)), (1, .ref (na 0)), (2, .int v2)] dX6_gather_1 (by decide) rfl ?_
  obtain ⟨hd_2, hL, hf⟩ := bd_e hf
  refine q_lv [(0, .ref (ta 0)), (1, .ref (na 0)), (2, .int v2), (3, .int (0 : Int32))] [1, 2, 3, 0] rfl ?_
  refine wX6_gather_L2 C ta na ri rs gr fm tt co le wa ar sz sa mo li lo he v2 hd_2 ?_ 300 _ _ hL
  refine q_iconst C 0 dX6_gather_52 (by decide) ?_
  refine q_istore_n C [(3, .int (0 : Int32)), (0, .ref (ta 0)), (2, .int v2)] dX6_gather_53 (by decide) rfl ?_
  obtain ⟨hd_54, hL, hf⟩ := bd_e hf
  refine q_lv [(0, .ref (ta 0)), (2, .int v2), (3, .int (0 : Int32))] [1, 2, 0] rfl ?_
  refine wX6_gather_L54 C ta na ri rs gr fm tt co le wa ar sz sa mo li lo he v2 hd_54 ?_ 300 _ _ hL
  have hz1 := Option.some.inj hf
  clear hf
  subst hz1
  exact hret _ _ dX6_gather_114

theorem lkX6_comers_1 : Cond.fieldLink RX6 28 "TwiceHeard$Telling" "ways" "[I" ∈ wsX6_comers := List.mem_of_getElem? (i := 1) rfl
theorem inX6_comers_X6 : ∀ w ∈ wsX60, w ∈ wsX6_comers := fun w h => List.mem_cons_of_mem _ (List.mem_append_right _ h)
abbrev rmX6_comers : Room := { frames := 0, cells := 0, slots := 0, locals := 0 }
theorem hdX6_comers : yX6_comers.cls = RX6 ∧ yX6_comers.cls ≠ "java/lang/invoke/MethodHandle" ∧ yX6_comers.cls ≠ "java/lang/invoke/VarHandle" ∧ (parseMethodDescriptor yX6_comers.desc).map (fun d => d.parameters.length) = some 0 := by decide +kernel
def fX6_comers_L4 (wa : (Nat → Int32)) : Nat → Int32 → Int32 → Option (Int32)
  | 0, _, _ => none
  | n + 1, v1, v2 =>
  if (9 : Int32) ≤ v2 then (
  some v1) else (
  (rdI 9 wa v2).bind fun x15 =>
  jn1 (fun (u1_26 : Int32) => 
  fX6_comers_L4 wa n u1_26 (v2 + 1)) fun k26 =>
  if x15 < (1 : Int32) then (
  k26 v1) else (
  k26 (v1 ||| ((1 : Int32) <<< (v2 &&& 31)))))
def fX6_comers (wa : (Nat → Int32))  : Option (Int32) :=
  (fX6_comers_L4 wa 300 (0 : Int32) (0 : Int32)).bind fun v1_4 =>
  some v1_4
set_option maxRecDepth 100000 in
set_option maxHeartbeats 4000000 in
theorem wX6_comers_L4 {p : Program} {l : Launch} {e : Env} {s : State} {m : MethodId} {args : Array Value} {below : List Frame} {meth : Method} {c : Code} {Q : State → Prop} {D : va_G} {A : Nat → Prop} {cI cJ cZ cN cM : ClassId} (C : Cx p s m args c cX6_comers 3 RX6 wsX6_comers D (TYL cI cJ cZ cN cM) A) (ta : Nat → Nat) (ri : (Nat → Int32)) (rs : (Nat → Int32)) (gr : Int32) (fm : (Nat → Int32)) (tt : (Nat → Int32)) (co : (Nat → Int32)) (le : Int32) (wa : (Nat → Int32)) (ar : (Nat → Int32)) (hd : (Nat → Int64))  (o1 : Int32) (kk : WW p l e rmX6_comers s m args below meth c Q D A 3 0 0 (tW cI cJ cZ cN cM ta ri rs gr fm tt co le wa ar hd) [(1, .int o1)] 32 []) : ∀ (n : Nat) (v1 : Int32) (v2 : Int32), fX6_comers_L4 wa n v1 v2 = some o1 → WW p l e rmX6_comers s m args below meth c Q D A 3 0 0 (tW cI cJ cZ cN cM ta ri rs gr fm tt co le wa ar hd) [(0, .ref (ta 0)), (1, .int v1), (2, .int v2)] 4 [] := by
  intro n
  induction n with
  | zero =>
    intro v1 v2 hf
    rw [fX6_comers_L4] at hf
    cases hf
  | succ n ih =>
    intro v1 v2 hf
    rw [fX6_comers_L4] at hf
    refine q_iload_n C 2 dX6_comers_4 rfl ?_
    refine q_bipush C 9 dX6_comers_5 (by decide) ?_
    refine q_icmp_ge C 32 dX6_comers_7 (by decide) hf (fun hf => ?_) (fun hf => ?_)
    · refine q_lv [(1, .int v1)] [1] rfl ?_
      have hz1 := Option.some.inj hf
      clear hf
      subst hz1
      exact kk
    · refine q_aload_n C 0 dX6_comers_10 rfl ?_
      refine q_get C 0 7 dX6_comers_11 rfl rfl (Nat.le_of_ble_eq_true rfl) inX6_comers_X6 lkX6_comers_1 rfl rfl ?_
      refine q_iload_n C 2 dX6_comers_14 rfl ?_
      refine q_iald C 6 0 dX6_comers_15 rfl rfl hf (fun x15 hf => ?_)
      refine q_iconst C 1 dX6_comers_16 (by decide) ?_
      refine jn1_e (fun (u1_26 : Int32) => WW p l e rmX6_comers s m args below meth c Q D A 3 0 0 (tW cI cJ cZ cN cM ta ri rs gr fm tt co le wa ar hd) [(0, .ref (ta 0)), (1, .int u1_26), (2, .int v2)] 26 []) hf ?_ ?_
      · intro u1_26 hf
        refine q_iinc C (v2 + 1) 2 [(2, .int (v2 + 1)), (0, .ref (ta 0)), (1, .int u1_26)] dX6_comers_26 rfl rfl (by decide) rfl ?_
        refine q_goto C 4 dX6_comers_29 (by decide) ?_
        refine q_lv [(0, .ref (ta 0)), (1, .int u1_26), (2, .int (v2 + 1))] [1, 2, 0] rfl ?_
        exact ih _ _ hf
      intro k26 J26 hf
      refine q_icmp_lt C 26 dX6_comers_17 (by decide) hf (fun hf => ?_) (fun hf => ?_)
      · exact J26 _ hf
      · refine q_iload_n C 1 dX6_comers_20 rfl ?_
        refine q_iconst C 1 dX6_comers_21 (by decide) ?_
        refine q_iload_n C 2 dX6_comers_22 rfl ?_
        refine q_ishl C dX6_comers_23 ?_
        refine q_ior C dX6_comers_24 ?_
        refine q_istore_n C [(1, .int (v1 ||| ((1 : Int32) <<< (v2 &&& 31)))), (0, .ref (ta 0)), (2, .int v2)] dX6_comers_25 (by decide) rfl ?_
        refine q_lv [(0, .ref (ta 0)), (1, .int (v1 ||| ((1 : Int32) <<< (v2 &&& 31)))), (2, .int v2)] [1, 0, 2] rfl ?_
        exact J26 _ hf
set_option maxRecDepth 100000 in
set_option maxHeartbeats 4000000 in
theorem kX6_comers (l : Launch) (D : va_G) (cI cJ cZ cN cM : ClassId) (ta : Nat → Nat) (ri : (Nat → Int32)) (rs : (Nat → Int32)) (gr : Int32) (fm : (Nat → Int32)) (tt : (Nat → Int32)) (co : (Nat → Int32)) (le : Int32) (wa : (Nat → Int32)) (ar : (Nat → Int32)) (hd : (Nat → Int64))  (r : Int32) (hf : fX6_comers wa = some r) : MetI l yX6_comers wsX6_comers rmX6_comers D (TYL cI cJ cZ cN cM) [.ref (ta 0)] (tW cI cJ cZ cN cM ta ri rs gr fm tt co le wa ar hd) (tW cI cJ cZ cN cM ta ri rs gr fm tt co le wa ar hd) r := by
  refine MetI.mk (cc := cX6_comers) (maxL := 3) (own := RX6) (ty := .int) [(0, .ref (ta 0))] (by decide +kernel) rfl rfl (Nat.le_of_ble_eq_true rfl) rfl ?_
  intro p e s m args below meth c A Q C hret
  unfold fX6_comers at hf
  refine q_iconst C 0 dX6_comers_0 (by decide) ?_
  refine q_istore_n C [(1, .int (0 : Int32)), (0, .ref (ta 0))] dX6_comers_1 (by decide) rfl ?_
  refine q_iconst C 0 dX6_comers_2 (by decide) ?_
  refine q_istore_n C [(2, .int (0 : Int32)), (1, .int (0 : Int32)), (0, .ref (ta 0))] dX6_comers_3 (by decide) rfl ?_
  obtain ⟨v1_4, hL, hf⟩ := bd_e hf
  refine q_lv [(0, .ref (ta 0)), (1, .int (0 : Int32)), (2, .int (0 : Int32))] [2, 1, 0] rfl ?_
  refine wX6_comers_L4 C ta ri rs gr fm tt co le wa ar hd  v1_4 ?_ 300 _ _ hL
  refine q_iload_n C 0 dX6_comers_32 rfl ?_
  have hz1 := Option.some.inj hf
  clear hf
  subst hz1
  exact hret _ _ dX6_comers_33 rfl
