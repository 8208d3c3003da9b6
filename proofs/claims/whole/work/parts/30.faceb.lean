theorem lkX7_mark_1 : Cond.constant RX7 105 (-1000000002) ∈ wsX7_mark := List.mem_of_getElem? (i := 1) rfl
theorem lkX7_mark_2 : Cond.fieldLink RX7 10 "TwiceHeard" "net" "LTwiceHeard$Net;" ∈ wsX7_mark := List.mem_of_getElem? (i := 2) rfl
theorem lkX7_mark_3 : Cond.fieldLink RX7 74 "TwiceHeard$Net" "salt" "I" ∈ wsX7_mark := List.mem_of_getElem? (i := 3) rfl
theorem inX7_mark_X7 : ∀ w ∈ wsX70, w ∈ wsX7_mark := fun w h => List.mem_cons_of_mem _ (List.mem_append_left _ (List.mem_append_right _ h))
theorem inX7_mark_X3 : ∀ w ∈ wsX30, w ∈ wsX7_mark := fun w h => List.mem_cons_of_mem _ (List.mem_append_right _ h)
abbrev rmX7_mark : Room := { frames := 1, cells := 0, slots := 0, locals := 23 }
theorem hdX7_mark : yX7_mark.cls = RX7 ∧ yX7_mark.cls ≠ "java/lang/invoke/MethodHandle" ∧ yX7_mark.cls ≠ "java/lang/invoke/VarHandle" ∧ (parseMethodDescriptor yX7_mark.desc).map (fun d => d.parameters.length) = some 2 := by decide +kernel
def fX7_mark (sa : Int32) (v1 : Int32) (v2 : Int32) : Option (Int32) :=
  (fX7_within v1 (0 : Int32) (15 : Int32)).bind fun x4 =>
  jn0 (
  some (-1000000002 : Int32)) fun k19 =>
  if x4 = 0 then (
  k19) else (
  (fX7_within v2 (0 : Int32) (1 : Int32)).bind fun x13 =>
  if x13 = 0 then (
  k19) else (
  (fX7_markOf v1 sa).bind fun x30 =>
  if v2 = 0 then (
  some x30) else (
  (fX7_rankOf x30).bind fun x43 =>
  some x43)))
set_option maxRecDepth 100000 in
set_option maxHeartbeats 4000000 in
theorem kX7_mark (l : Launch) (D : va_G) (cI cJ cZ cN cM : ClassId) (xa : Nat → Nat) (na : Nat → Nat) (pa : Nat → Nat) (ta : Nat → Nat) (ba : Nat → Nat) (da : Nat → Nat) (ia : Nat → Nat) (rc : (Nat → Int64)) (sz : Int32) (sa : Int32) (mo : Int32) (li : (Nat → Int32)) (lo : (Nat → Int32)) (he : (Nat → Int32)) (v1 : Int32) (v2 : Int32) (r : Int32) (hf : fX7_mark sa v1 v2 = some r) : MetI l yX7_mark wsX7_mark rmX7_mark D (TYL cI cJ cZ cN cM) [.ref (xa 0), .int v1, .int v2] (List.flatten [xW cI cJ cZ cN cM xa na pa ta ba da ia rc, nW cI cJ cZ cN cM na sz sa mo li lo he]) (List.flatten [xW cI cJ cZ cN cM xa na pa ta ba da ia rc, nW cI cJ cZ cN cM na sz sa mo li lo he]) r := by
  refine MetI.mk (cc := cX7_mark) (maxL := 4) (own := RX7) (ty := .int) [(0, .ref (xa 0)), (1, .int v1), (2, .int v2)] (by decide +kernel) rfl rfl (Nat.le_of_ble_eq_true rfl) rfl ?_
  intro p e s m args below meth c A Q C hret
  unfold fX7_mark at hf
  refine q_iload_n C 1 dX7_mark_0 rfl ?_
  refine q_iconst C 0 dX7_mark_1 (by decide) ?_
  refine q_bipush C 15 dX7_mark_2 (by decide) ?_
  obtain ⟨x4, hM, hf⟩ := bd_e hf
  refine q_callSI C (List.flatten [xW cI cJ cZ cN cM xa na pa ta ba da ia rc, nW cI cJ cZ cN cM na sz sa mo li lo he]) (kX7_within l D cI cJ cZ cN cM   v1 (0 : Int32) (15 : Int32) x4 hM) (va_cwS 3 C.1.2.2.2.2 gX7_mark_X7_within rfl rfl rfl hdX7_within ⟨Nat.le_of_ble_eq_true rfl, Nat.le_of_ble_eq_true rfl⟩) FrX.none rfl rfl (Nat.le_of_ble_eq_true rfl) dX7_mark_4 ⟨Nat.zero_le _, Nat.zero_le _⟩ ?_
  refine jn0_e (WW p l e rmX7_mark s m args below meth c Q D A 4 0 0 (List.flatten [xW cI cJ cZ cN cM xa na pa ta ba da ia rc, nW cI cJ cZ cN cM na sz sa mo li lo he]) [] 19 []) hf ?_ ?_
  · intro hf
    refine q_ldc C dX7_mark_19 lkX7_mark_1 ?_
    have hz1 := Option.some.inj hf
    clear hf
    subst hz1
    exact hret _ _ dX7_mark_21 rfl
  intro k19 J19 hf
  refine q_if_eq C 19 dX7_mark_7 (by decide) hf (fun hf => ?_) (fun hf => ?_)
  · refine q_lv [] [] rfl ?_
    exact J19  hf
  · refine q_iload_n C 2 dX7_mark_10 rfl ?_
    refine q_iconst C 0 dX7_mark_11 (by decide) ?_
    refine q_iconst C 1 dX7_mark_12 (by decide) ?_
    obtain ⟨x13, hM, hf⟩ := bd_e hf
    refine q_callSI C (List.flatten [xW cI cJ cZ cN cM xa na pa ta ba da ia rc, nW cI cJ cZ cN cM na sz sa mo li lo he]) (kX7_within l D cI cJ cZ cN cM   v2 (0 : Int32) (1 : Int32) x13 hM) (va_cwS 3 C.1.2.2.2.2 gX7_mark_X7_within rfl rfl rfl hdX7_within ⟨Nat.le_of_ble_eq_true rfl, Nat.le_of_ble_eq_true rfl⟩) FrX.none rfl rfl (Nat.le_of_ble_eq_true rfl) dX7_mark_13 ⟨Nat.zero_le _, Nat.zero_le _⟩ ?_
    refine q_if_ne C 22 dX7_mark_16 (by decide) hf (fun hf => ?_) (fun hf => ?_)
    · refine q_iload_n C 1 dX7_mark_22 rfl ?_
      refine q_aload_n C 0 dX7_mark_23 rfl ?_
      refine q_get C 0 0 dX7_mark_24 rfl rfl (Nat.le_of_ble_eq_true rfl) inX7_mark_X7 lkX7_mark_2 rfl rfl ?_
      refine q_get C 2 1 dX7_mark_27 rfl rfl (Nat.le_of_ble_eq_true rfl) inX7_mark_X3 lkX7_mark_3 rfl rfl ?_
      obtain ⟨x30, hM, hf⟩ := bd_e hf
      refine q_callSI C (List.flatten [xW cI cJ cZ cN cM xa na pa ta ba da ia rc, nW cI cJ cZ cN cM na sz sa mo li lo he]) (kX7_markOf l D cI cJ cZ cN cM   v1 sa x30 hM) (va_cwS 2 C.1.2.2.2.2 gX7_mark_X7_markOf rfl rfl rfl hdX7_markOf ⟨Nat.le_of_ble_eq_true rfl, Nat.le_of_ble_eq_true rfl⟩) FrX.none rfl rfl (Nat.le_of_ble_eq_true rfl) dX7_mark_30 ⟨Nat.zero_le _, Nat.zero_le _⟩ ?_
      refine q_istore_n C [(3, .int x30), (0, .ref (xa 0)), (1, .int v1), (2, .int v2)] dX7_mark_33 (by decide) rfl ?_
      refine q_iload_n C 3 dX7_mark_34 rfl ?_
      refine q_if_ne C 42 dX7_mark_35 (by decide) hf (fun hf => ?_) (fun hf => ?_)
      · refine q_iload_n C 0 dX7_mark_42 rfl ?_
        obtain ⟨x43, hM, hf⟩ := bd_e hf
        refine q_callSI C (List.flatten [xW cI cJ cZ cN cM xa na pa ta ba da ia rc, nW cI cJ cZ cN cM na sz sa mo li lo he]) (kX7_rankOf l D cI cJ cZ cN cM   x30 x43 hM) (va_cwS 1 C.1.2.2.2.2 gX7_mark_X7_rankOf rfl rfl rfl hdX7_rankOf ⟨Nat.le_of_ble_eq_true rfl, Nat.le_of_ble_eq_true rfl⟩) FrX.none rfl rfl (Nat.le_of_ble_eq_true rfl) dX7_mark_43 ⟨Nat.zero_le _, Nat.zero_le _⟩ ?_
        have hz1 := Option.some.inj hf
        clear hf
        subst hz1
        exact hret _ _ dX7_mark_46 rfl
      · refine q_iload_n C 0 dX7_mark_38 rfl ?_
        refine q_goto C 46 dX7_mark_39 (by decide) ?_
        have hz1 := Option.some.inj hf
        clear hf
        subst hz1
        exact hret _ _ dX7_mark_46 rfl
    · refine q_lv [] [] rfl ?_
      exact J19  hf

theorem lkX7_holds_1 : Cond.fieldLink RX7 10 "TwiceHeard" "net" "LTwiceHeard$Net;" ∈ wsX7_holds := List.mem_of_getElem? (i := 1) rfl
theorem lkX7_holds_2 : Cond.constantLong RX7 146 (-1000000001) ∈ wsX7_holds := List.mem_of_getElem? (i := 2) rfl
theorem lkX7_holds_3 : Cond.constantLong RX7 148 (-1000000002) ∈ wsX7_holds := List.mem_of_getElem? (i := 3) rfl
theorem lkX7_holds_4 : Cond.fieldLink RX7 26 "TwiceHeard" "telling" "LTwiceHeard$Telling;" ∈ wsX7_holds := List.mem_of_getElem? (i := 4) rfl
theorem lkX7_holds_5 : Cond.fieldLink RX7 154 "TwiceHeard$Telling" "held" "[J" ∈ wsX7_holds := List.mem_of_getElem? (i := 5) rfl
theorem inX7_holds_X7 : ∀ w ∈ wsX70, w ∈ wsX7_holds := fun w h => List.mem_cons_of_mem _ (List.mem_append_left _ (List.mem_append_left _ (List.mem_append_right _ h)))
theorem inX7_holds_X6 : ∀ w ∈ wsX60, w ∈ wsX7_holds := fun w h => List.mem_cons_of_mem _ (List.mem_append_left _ (List.mem_append_right _ h))
theorem inX7_holds_X3 : ∀ w ∈ wsX30, w ∈ wsX7_holds := fun w h => List.mem_cons_of_mem _ (List.mem_append_right _ h)
abbrev rmX7_holds : Room := { frames := 4, cells := 0, slots := 0, locals := 99 }
theorem hdX7_holds : yX7_holds.cls = RX7 ∧ yX7_holds.cls ≠ "java/lang/invoke/MethodHandle" ∧ yX7_holds.cls ≠ "java/lang/invoke/VarHandle" ∧ (parseMethodDescriptor yX7_holds.desc).map (fun d => d.parameters.length) = some 2 := by decide +kernel
def fX7_holds (sz : Int32) (sa : Int32) (mo : Int32) (li : (Nat → Int32)) (lo : (Nat → Int32)) (he : (Nat → Int32)) (ri : (Nat → Int32)) (rs : (Nat → Int32)) (gr : Int32) (fm : (Nat → Int32)) (tt : (Nat → Int32)) (co : (Nat → Int32)) (le : Int32) (wa : (Nat → Int32)) (ar : (Nat → Int32)) (hd : (Nat → Int64)) (v1 : Int32) (v2 : Int32) : Option (Int64 × (Nat → Int32) × (Nat → Int32) × Int32 × (Nat → Int32) × (Nat → Int32) × (Nat → Int32) × Int32 × (Nat → Int32) × (Nat → Int32) × (Nat → Int64)) :=
  (fX3_has sz v1).bind fun x5 =>
  if x5 = 0 then (
  some ((-1000000001 : Int64), ri, rs, gr, fm, tt, co, le, wa, ar, hd)) else (
  (fX7_within v2 (0 : Int32) (3 : Int32)).bind fun x18 =>
  if x18 = 0 then (
  some ((-1000000002 : Int64), ri, rs, gr, fm, tt, co, le, wa, ar, hd)) else (
  bd9 (fX6_trace ri rs gr fm tt co le wa ar sz mo li lo) fun ri_36 rs_36 gr_36 fm_36 tt_36 co_36 le_36 wa_36 ar_36 =>
  (fX6_gather ri_36 fm_36 tt_36 co_36 le_36 hd sz sa he v2).bind fun hd_48 =>
  (rdL 9 hd_48 v1).bind fun x59 =>
  some (x59, ri_36, rs_36, gr_36, fm_36, tt_36, co_36, le_36, wa_36, ar_36, hd_48)))
set_option maxRecDepth 100000 in
set_option maxHeartbeats 4000000 in
theorem kX7_holds (l : Launch) (D : va_G) (cI cJ cZ cN cM : ClassId) (xa : Nat → Nat) (na : Nat → Nat) (pa : Nat → Nat) (ta : Nat → Nat) (ba : Nat → Nat) (da : Nat → Nat) (ia : Nat → Nat) (rc : (Nat → Int64)) (sz : Int32) (sa : Int32) (mo : Int32) (li : (Nat → Int32)) (lo : (Nat → Int32)) (he : (Nat → Int32)) (ri : (Nat → Int32)) (rs : (Nat → Int32)) (gr : Int32) (fm : (Nat → Int32)) (tt : (Nat → Int32)) (co : (Nat → Int32)) (le : Int32) (wa : (Nat → Int32)) (ar : (Nat → Int32)) (hd : (Nat → Int64)) (v1 : Int32) (v2 : Int32) (r : Int64) (ri_o : (Nat → Int32)) (rs_o : (Nat → Int32)) (gr_o : Int32) (fm_o : (Nat → Int32)) (tt_o : (Nat → Int32)) (co_o : (Nat → Int32)) (le_o : Int32) (wa_o : (Nat → Int32)) (ar_o : (Nat → Int32)) (hd_o : (Nat → Int64)) (hf : fX7_holds sz sa mo li lo he ri rs gr fm tt co le wa ar hd v1 v2 = some (r, ri_o, rs_o, gr_o, fm_o, tt_o, co_o, le_o, wa_o, ar_o, hd_o)) : MetL l yX7_holds wsX7_holds rmX7_holds D (TYL cI cJ cZ cN cM) [.ref (xa 0), .int v1, .int v2] (List.flatten [xW cI cJ cZ cN cM xa na pa ta ba da ia rc, nW cI cJ cZ cN cM na sz sa mo li lo he, tW cI cJ cZ cN cM ta ri rs gr fm tt co le wa ar hd]) (List.flatten [xW cI cJ cZ cN cM xa na pa ta ba da ia rc, nW cI cJ cZ cN cM na sz sa mo li lo he, tW cI cJ cZ cN cM ta ri_o rs_o gr_o fm_o tt_o co_o le_o wa_o ar_o hd_o]) r := by
  refine MetL.mk (cc := cX7_holds) (maxL := 3) (own := RX7) [(0, .ref (xa 0)), (1, .int v1), (2, .int v2)] (by decide +kernel) rfl rfl (Nat.le_of_ble_eq_true rfl) rfl ?_
  intro p e s m args below meth c A Q C hret
  unfold fX7_holds at hf
  refine q_aload_n C 0 dX7_holds_0 rfl ?_
  refine q_get C 0 0 dX7_holds_1 rfl rfl (Nat.le_of_ble_eq_true rfl) inX7_holds_X7 lkX7_holds_1 rfl rfl ?_
  refine q_iload_n C 1 dX7_holds_4 rfl ?_
  obtain ⟨x5, hM, hf⟩ := bd_e hf
  refine q_callVI C (List.flatten [xW cI cJ cZ cN cM xa na pa ta ba da ia rc, nW cI cJ cZ cN cM na sz sa mo li lo he, tW cI cJ cZ cN cM ta ri rs gr fm tt co le wa ar hd]) (kX3_has l D cI cJ cZ cN cM na sz sa mo li lo he v1 x5 hM) (cwV 1 C.1.2.2.2.2 gX7_holds_X3_has rfl rfl rfl hdX3_has ⟨Nat.le_of_ble_eq_true rfl, Nat.le_of_ble_eq_true rfl⟩) 2 3 rfl rfl (FrX.blk [xW cI cJ cZ cN cM xa na pa ta ba da ia rc, nW cI cJ cZ cN cM na sz sa mo li lo he, tW cI cJ cZ cN cM ta ri rs gr fm tt co le wa ar hd] [xW cI cJ cZ cN cM xa na pa ta ba da ia rc, nW cI cJ cZ cN cM na sz sa mo li lo he, tW cI cJ cZ cN cM ta ri rs gr fm tt co le wa ar hd] [1] [0, 2] 3 rfl rfl (by decide) rfl (List.append_nil _) (List.append_nil _)) rfl rfl (Nat.le_of_ble_eq_true rfl) dX7_holds_5 ⟨Nat.zero_le _, Nat.zero_le _⟩ ?_
  refine q_if_ne C 15 dX7_holds_8 (by decide) hf (fun hf => ?_) (fun hf => ?_)
  · refine q_iload_n C 2 dX7_holds_15 rfl ?_
    refine q_iconst C 0 dX7_holds_16 (by decide) ?_
    refine q_iconst C 3 dX7_holds_17 (by decide) ?_
    obtain ⟨x18, hM, hf⟩ := bd_e hf
    refine q_callSI C (List.flatten [xW cI cJ cZ cN cM xa na pa ta ba da ia rc, nW cI cJ cZ cN cM na sz sa mo li lo he, tW cI cJ cZ cN cM ta ri rs gr fm tt co le wa ar hd]) (kX7_within l D cI cJ cZ cN cM   v2 (0 : Int32) (3 : Int32) x18 hM) (va_cwS 3 C.1.2.2.2.2 gX7_holds_X7_within rfl rfl rfl hdX7_within ⟨Nat.le_of_ble_eq_true rfl, Nat.le_of_ble_eq_true rfl⟩) FrX.none rfl rfl (Nat.le_of_ble_eq_true rfl) dX7_holds_18 ⟨Nat.zero_le _, Nat.zero_le _⟩ ?_
    refine q_if_ne C 28 dX7_holds_21 (by decide) hf (fun hf => ?_) (fun hf => ?_)
    · refine q_aload_n C 0 dX7_holds_28 rfl ?_
      refine q_get C 0 2 dX7_holds_29 rfl rfl (Nat.le_of_ble_eq_true rfl) inX7_holds_X7 lkX7_holds_4 rfl rfl ?_
      refine q_aload_n C 0 dX7_holds_32 rfl ?_
      refine q_get C 0 0 dX7_holds_33 rfl rfl (Nat.le_of_ble_eq_true rfl) inX7_holds_X7 lkX7_holds_1 rfl rfl ?_
      obtain ⟨ri_36, rs_36, gr_36, fm_36, tt_36, co_36, le_36, wa_36, ar_36, hM, hf⟩ := bd9_e hf
      refine q_callVV C (List.flatten [xW cI cJ cZ cN cM xa na pa ta ba da ia rc, nW cI cJ cZ cN cM na sz sa mo li lo he, tW cI cJ cZ cN cM ta ri_36 rs_36 gr_36 fm_36 tt_36 co_36 le_36 wa_36 ar_36 hd]) (kX6_trace l D cI cJ cZ cN cM ta na ri rs gr fm tt co le wa ar hd sz sa mo li lo he  ri_36 rs_36 gr_36 fm_36 tt_36 co_36 le_36 wa_36 ar_36 hM) (cwV 1 C.1.2.2.2.2 gX7_holds_X6_trace rfl rfl rfl hdX6_trace ⟨Nat.le_of_ble_eq_true rfl, Nat.le_of_ble_eq_true rfl⟩) 6 5 rfl rfl (FrX.blk [xW cI cJ cZ cN cM xa na pa ta ba da ia rc, nW cI cJ cZ cN cM na sz sa mo li lo he, tW cI cJ cZ cN cM ta ri rs gr fm tt co le wa ar hd] [xW cI cJ cZ cN cM xa na pa ta ba da ia rc, nW cI cJ cZ cN cM na sz sa mo li lo he, tW cI cJ cZ cN cM ta ri_36 rs_36 gr_36 fm_36 tt_36 co_36 le_36 wa_36 ar_36 hd] [2, 1] [0] 3 rfl rfl (by decide) rfl rfl rfl) rfl rfl (Nat.le_of_ble_eq_true rfl) dX7_holds_36 ⟨Nat.zero_le _, Nat.zero_le _⟩ ?_
      refine q_aload_n C 0 dX7_holds_39 rfl ?_
      refine q_get C 0 2 dX7_holds_40 rfl rfl (Nat.le_of_ble_eq_true rfl) inX7_holds_X7 lkX7_holds_4 rfl rfl ?_
      refine q_aload_n C 0 dX7_holds_43 rfl ?_
      refine q_get C 0 0 dX7_holds_44 rfl rfl (Nat.le_of_ble_eq_true rfl) inX7_holds_X7 lkX7_holds_1 rfl rfl ?_
      refine q_iload_n C 2 dX7_holds_47 rfl ?_
      obtain ⟨hd_48, hM, hf⟩ := bd_e hf
      refine q_callVV C (List.flatten [xW cI cJ cZ cN cM xa na pa ta ba da ia rc, nW cI cJ cZ cN cM na sz sa mo li lo he, tW cI cJ cZ cN cM ta ri_36 rs_36 gr_36 fm_36 tt_36 co_36 le_36 wa_36 ar_36 hd_48]) (kX6_gather l D cI cJ cZ cN cM ta na ri_36 rs_36 gr_36 fm_36 tt_36 co_36 le_36 wa_36 ar_36 hd sz sa mo li lo he v2 hd_48 hM) (cwV 2 C.1.2.2.2.2 gX7_holds_X6_gather rfl rfl rfl hdX6_gather ⟨Nat.le_of_ble_eq_true rfl, Nat.le_of_ble_eq_true rfl⟩) 6 5 rfl rfl (FrX.blk [xW cI cJ cZ cN cM xa na pa ta ba da ia rc, nW cI cJ cZ cN cM na sz sa mo li lo he, tW cI cJ cZ cN cM ta ri_36 rs_36 gr_36 fm_36 tt_36 co_36 le_36 wa_36 ar_36 hd] [xW cI cJ cZ cN cM xa na pa ta ba da ia rc, nW cI cJ cZ cN cM na sz sa mo li lo he, tW cI cJ cZ cN cM ta ri_36 rs_36 gr_36 fm_36 tt_36 co_36 le_36 wa_36 ar_36 hd_48] [2, 1] [0] 3 rfl rfl (by decide) rfl rfl rfl) rfl rfl (Nat.le_of_ble_eq_true rfl) dX7_holds_48 ⟨Nat.zero_le _, Nat.zero_le _⟩ ?_
      refine q_aload_n C 0 dX7_holds_51 rfl ?_
      refine q_get C 0 2 dX7_holds_52 rfl rfl (Nat.le_of_ble_eq_true rfl) inX7_holds_X7 lkX7_holds_4 rfl rfl ?_
      refine q_get C 6 9 dX7_holds_55 rfl rfl (Nat.le_of_ble_eq_true rfl) inX7_holds_X6 lkX7_holds_5 rfl rfl ?_
      refine q_iload_n C 1 dX7_holds_58 rfl ?_
      refine q_lald C 14 1 dX7_holds_59 rfl rfl hf (fun x59 hf => ?_)
      have hy0 := Option.some.inj hf
      clear hf
      obtain ⟨hz1, hy1⟩ := Prod.mk.inj hy0
      clear hy0
      obtain ⟨hz2, hy2⟩ := Prod.mk.inj hy1
      clear hy1
      obtain ⟨hz3, hy3⟩ := Prod.mk.inj hy2
      clear hy2
      obtain ⟨hz4, hy4⟩ := Prod.mk.inj hy3
      clear hy3
      obtain ⟨hz5, hy5⟩ := Prod.mk.inj hy4
      clear hy4
      obtain ⟨hz6, hy6⟩ := Prod.mk.inj hy5
      clear hy5
      obtain ⟨hz7, hy7⟩ := Prod.mk.inj hy6
      clear hy6
      obtain ⟨hz8, hy8⟩ := Prod.mk.inj hy7
      clear hy7
      obtain ⟨hz9, hy9⟩ := Prod.mk.inj hy8
      clear hy8
      obtain ⟨hz10, hy10⟩ := Prod.mk.inj hy9
      clear hy9
      subst hz1
      subst hz2
      subst hz3
      subst hz4
      subst hz5
      subst hz6
      subst hz7
      subst hz8
      subst hz9
      subst hz10
      subst hy10
      exact hret _ _ dX7_holds_60
    · refine q_ldc2 C dX7_holds_24 lkX7_holds_3 ?_
      have hy0 := Option.some.inj hf
      clear hf
      obtain ⟨hz1, hy1⟩ := Prod.mk.inj hy0
      clear hy0
      obtain ⟨hz2, hy2⟩ := Prod.mk.inj hy1
      clear hy1
      obtain ⟨hz3, hy3⟩ := Prod.mk.inj hy2
      clear hy2
      obtain ⟨hz4, hy4⟩ := Prod.mk.inj hy3
      clear hy3
      obtain ⟨hz5, hy5⟩ := Prod.mk.inj hy4
      clear hy4
      obtain ⟨hz6, hy6⟩ := Prod.mk.inj hy5
      clear hy5
      obtain ⟨hz7, hy7⟩ := Prod.mk.inj hy6
      clear hy6
      obtain ⟨hz8, hy8⟩ := Prod.mk.inj hy7
      clear hy7
      obtain ⟨hz9, hy9⟩ := Prod.mk.inj hy8
      clear hy8
      obtain ⟨hz10, hy10⟩ := Prod.mk.inj hy9
      clear hy9
      subst hz1
      subst hz2
      subst hz3
      subst hz4
      subst hz5
      subst hz6
      subst hz7
      subst hz8
      subst hz9
      subst hz10
      subst hy10
      exact hret _ _ dX7_holds_27
  · refine q_ldc2 C dX7_holds_11 lkX7_holds_2 ?_
    have hy0 := Option.some.inj hf
    clear hf
    obtain ⟨hz1, hy1⟩ := Prod.mk.inj hy0
    clear hy0
    obtain ⟨hz2, hy2⟩ := Prod.mk.inj hy1
    clear hy1
    obtain ⟨hz3, hy3⟩ := Prod.mk.inj hy2
    clear hy2
    obtain ⟨hz4, hy4⟩ := Prod.mk.inj hy3
    clear hy3
    obtain ⟨hz5, hy5⟩ := Prod.mk.inj hy4
    clear hy4
    obtain ⟨hz6, hy6⟩ := Prod.mk.inj hy5
    clear hy5
    obtain ⟨hz7, hy7⟩ := Prod.mk.inj hy6
    clear hy6
    obtain ⟨hz8, hy8⟩ := Prod.mk.inj hy7
    clear hy7
    obtain ⟨hz9, hy9⟩ := Prod.mk.inj hy8
    clear hy8
    obtain ⟨hz10, hy10⟩ := Prod.mk.inj hy9
    clear hy9
    subst hz1
    subst hz2
    subst hz3
    subst hz4
    subst hz5
    subst hz6
    subst hz7
    subst hz8
    subst hz9
    subst hz10
    subst hy10
    exact hret _ _ dX7_holds_14

theorem lkX7_guess_1 : Cond.fieldLink RX7 10 "TwiceHeard" "net" "LTwiceHeard$Net;" ∈ wsX7_guess := List.mem_of_getElem? (i := 1) rfl
theorem lkX7_guess_2 : Cond.constant RX7 110 (-1000000001) ∈ wsX7_guess := List.mem_of_getElem? (i := 2) rfl
theorem lkX7_guess_3 : Cond.constant RX7 105 (-1000000002) ∈ wsX7_guess := List.mem_of_getElem? (i := 3) rfl
theorem lkX7_guess_4 : Cond.fieldLink RX7 26 "TwiceHeard" "telling" "LTwiceHeard$Telling;" ∈ wsX7_guess := List.mem_of_getElem? (i := 4) rfl
theorem inX7_guess_X7 : ∀ w ∈ wsX70, w ∈ wsX7_guess := fun w h => List.mem_cons_of_mem _ (List.mem_append_left _ (List.mem_append_left _ (List.mem_append_right _ h)))
theorem inX7_guess_X3 : ∀ w ∈ wsX30, w ∈ wsX7_guess := fun w h => List.mem_cons_of_mem _ (List.mem_append_left _ (List.mem_append_right _ h))
theorem inX7_guess_X6 : ∀ w ∈ wsX60, w ∈ wsX7_guess := fun w h => List.mem_cons_of_mem _ (List.mem_append_right _ h)
abbrev rmX7_guess : Room := { frames := 4, cells := 0, slots := 0, locals := 99 }
theorem hdX7_guess : yX7_guess.cls = RX7 ∧ yX7_guess.cls ≠ "java/lang/invoke/MethodHandle" ∧ yX7_guess.cls ≠ "java/lang/invoke/VarHandle" ∧ (parseMethodDescriptor yX7_guess.desc).map (fun d => d.parameters.length) = some 2 := by decide +kernel
def fX7_guess (sz : Int32) (sa : Int32) (mo : Int32) (li : (Nat → Int32)) (lo : (Nat → Int32)) (he : (Nat → Int32)) (ri : (Nat → Int32)) (rs : (Nat → Int32)) (gr : Int32) (fm : (Nat → Int32)) (tt : (Nat → Int32)) (co : (Nat → Int32)) (le : Int32) (wa : (Nat → Int32)) (ar : (Nat → Int32)) (hd : (Nat → Int64)) (v1 : Int32) (v2 : Int32) : Option (Int32 × (Nat → Int32) × (Nat → Int32) × Int32 × (Nat → Int32) × (Nat → Int32) × (Nat → Int32) × Int32 × (Nat → Int32) × (Nat → Int32) × (Nat → Int64)) :=
  (fX3_has sz v1).bind fun x5 =>
  if x5 = 0 then (
  some ((-1000000001 : Int32), ri, rs, gr, fm, tt, co, le, wa, ar, hd)) else (
  (fX7_within v2 (1 : Int32) (2 : Int32)).bind fun x17 =>
  if x17 = 0 then (
  some ((-1000000002 : Int32), ri, rs, gr, fm, tt, co, le, wa, ar, hd)) else (
  bd9 (fX6_trace ri rs gr fm tt co le wa ar sz mo li lo) fun ri_34 rs_34 gr_34 fm_34 tt_34 co_34 le_34 wa_34 ar_34 =>
  (fX6_gather ri_34 fm_34 tt_34 co_34 le_34 hd sz sa he v2).bind fun hd_46 =>
  (fX7_guessOf ri_34 hd_46 v1 v2).bind fun x52 =>
  some (x52, ri_34, rs_34, gr_34, fm_34, tt_34, co_34, le_34, wa_34, ar_34, hd_46)))
set_option maxRecDepth 100000 in
set_option maxHeartbeats 4000000 in
theorem kX7_guess (l : Launch) (D : va_G) (cI cJ cZ cN cM : ClassId) (xa : Nat → Nat) (na : Nat → Nat) (pa : Nat → Nat) (ta : Nat → Nat) (ba : Nat → Nat) (da : Nat → Nat) (ia : Nat → Nat) (rc : (Nat → Int64)) (sz : Int32) (sa : Int32) (mo : Int32) (li : (Nat → Int32)) (lo : (Nat → Int32)) (he : (Nat → Int32)) (ri : (Nat → Int32)) (rs : (Nat → Int32)) (gr : Int32) (fm : (Nat → Int32)) (tt : (Nat → Int32)) (co : (Nat → Int32)) (le : Int32) (wa : (Nat → Int32)) (ar : (Nat → Int32)) (hd : (Nat → Int64)) (v1 : Int32) (v2 : Int32) (r : Int32) (ri_o : (Nat → Int32)) (rs_o : (Nat → Int32)) (gr_o : Int32) (fm_o : (Nat → Int32)) (tt_o : (Nat → Int32)) (co_o : (Nat → Int32)) (le_o : Int32) (wa_o : (Nat → Int32)) (ar_o : (Nat → Int32)) (hd_o : (Nat → Int64)) (hf : fX7_guess sz sa mo li lo he ri rs gr fm tt co le wa ar hd v1 v2 = some (r, ri_o, rs_o, gr_o, fm_o, tt_o, co_o, le_o, wa_o, ar_o, hd_o)) : MetI l yX7_guess wsX7_guess rmX7_guess D (TYL cI cJ cZ cN cM) [.ref (xa 0), .int v1, .int v2] (List.flatten [xW cI cJ cZ cN cM xa na pa ta ba da ia rc, nW cI cJ cZ cN cM na sz sa mo li lo he, tW cI cJ cZ cN cM ta ri rs gr fm tt co le wa ar hd]) (List.flatten [xW cI cJ cZ cN cM xa na pa ta ba da ia rc, nW cI cJ cZ cN cM na sz sa mo li lo he, tW cI cJ cZ cN cM ta ri_o rs_o gr_o fm_o tt_o co_o le_o wa_o ar_o hd_o]) r := by
  refine MetI.mk (cc := cX7_guess) (maxL := 3) (own := RX7) (ty := .int) [(0, .ref (xa 0)), (1, .int v1), (2, .int v2)] (by decide +kernel) rfl rfl (Nat.le_of_ble_eq_true rfl) rfl ?_
  intro p e s m args below meth c A Q C hret
  unfold fX7_guess at hf
  refine q_aload_n C 0 dX7_guess_0 rfl ?_
  refine q_get C 0 0 dX7_guess_1 rfl rfl (Nat.le_of_ble_eq_true rfl) inX7_guess_X7 lkX7_guess_1 rfl rfl ?_
  refine q_iload_n C 1 dX7_guess_4 rfl ?_
  obtain ⟨x5, hM, hf⟩ := bd_e hf
  refine q_callVI C (List.flatten [xW cI cJ cZ cN cM xa na pa ta ba da ia rc, nW cI cJ cZ cN cM na sz sa mo li lo he, tW cI cJ cZ cN cM ta ri rs gr fm tt co le wa ar hd]) (kX3_has l D cI cJ cZ cN cM na sz sa mo li lo he v1 x5 hM) (cwV 1 C.1.2.2.2.2 gX7_guess_X3_has rfl rfl rfl hdX3_has ⟨Nat.le_of_ble_eq_true rfl, Nat.le_of_ble_eq_true rfl⟩) 2 3 rfl rfl (FrX.blk [xW cI cJ cZ cN cM xa na pa ta ba da ia rc, nW cI cJ cZ cN cM na sz sa mo li lo he, tW cI cJ cZ cN cM ta ri rs gr fm tt co le wa ar hd] [xW cI cJ cZ cN cM xa na pa ta ba da ia rc, nW cI cJ cZ cN cM na sz sa mo li lo he, tW cI cJ cZ cN cM ta ri rs gr fm tt co le wa ar hd] [1] [0, 2] 3 rfl rfl (by decide) rfl (List.append_nil _) (List.append_nil _)) rfl rfl (Nat.le_of_ble_eq_true rfl) dX7_guess_5 ⟨Nat.zero_le _, Nat.zero_le _⟩ ?_
  refine q_if_ne C 14 dX7_guess_8 (by decide) hf (fun hf => ?_) (fun hf => ?_)
  · refine q_iload_n C 2 dX7_guess_14 rfl ?_
    refine q_iconst C 1 dX7_guess_15 (by decide) ?_
    refine q_iconst C 2 dX7_guess_16 (by decide) ?_
    obtain ⟨x17, hM, hf⟩ := bd_e hf
    refine q_callSI C (List.flatten [xW cI cJ cZ cN cM xa na pa ta ba da ia rc, nW cI cJ cZ cN cM na sz sa mo li lo he, tW cI cJ cZ cN cM ta ri rs gr fm tt co le wa ar hd]) (kX7_within l D cI cJ cZ cN cM   v2 (1 : Int32) (2 : Int32) x17 hM) (va_cwS 3 C.1.2.2.2.2 gX7_guess_X7_within rfl rfl rfl hdX7_within ⟨Nat.le_of_ble_eq_true rfl, Nat.le_of_ble_eq_true rfl⟩) FrX.none rfl rfl (Nat.le_of_ble_eq_true rfl) dX7_guess_17 ⟨Nat.zero_le _, Nat.zero_le _⟩ ?_
    refine q_if_ne C 26 dX7_guess_20 (by decide) hf (fun hf => ?_) (fun hf => ?_)
    · refine q_aload_n C 0 dX7_guess_26 rfl ?_
      refine q_get C 0 2 dX7_guess_27 rfl rfl (Nat.le_of_ble_eq_true rfl) inX7_guess_X7 lkX7_guess_4 rfl rfl ?_
      refine q_aload_n C 0 dX7_guess_30 rfl ?_
      refine q_get C 0 0 dX7_guess_31 rfl rfl (Nat.le_of_ble_eq_true rfl) inX7_guess_X7 lkX7_guess_1 rfl rfl ?_
      obtain ⟨ri_34, rs_34, gr_34, fm_34, tt_34, co_34, le_34, wa_34, ar_34, hM, hf⟩ := bd9_e hf
      refine q_callVV C (List.flatten [xW cI cJ cZ cN cM xa na pa ta ba da ia rc, nW cI cJ cZ cN cM na sz sa mo li lo he, tW cI cJ cZ cN cM ta ri_34 rs_34 gr_34 fm_34 tt_34 co_34 le_34 wa_34 ar_34 hd]) (kX6_trace l D cI cJ cZ cN cM ta na ri rs gr fm tt co le wa ar hd sz sa mo li lo he  ri_34 rs_34 gr_34 fm_34 tt_34 co_34 le_34 wa_34 ar_34 hM) (cwV 1 C.1.2.2.2.2 gX7_guess_X6_trace rfl rfl rfl hdX6_trace ⟨Nat.le_of_ble_eq_true rfl, Nat.le_of_ble_eq_true rfl⟩) 6 5 rfl rfl (FrX.blk [xW cI cJ cZ cN cM xa na pa ta ba da ia rc, nW cI cJ cZ cN cM na sz sa mo li lo he, tW cI cJ cZ cN cM ta ri rs gr fm tt co le wa ar hd] [xW cI cJ cZ cN cM xa na pa ta ba da ia rc, nW cI cJ cZ cN cM na sz sa mo li lo he, tW cI cJ cZ cN cM ta ri_34 rs_34 gr_34 fm_34 tt_34 co_34 le_34 wa_34 ar_34 hd] [2, 1] [0] 3 rfl rfl (by decide) rfl rfl rfl) rfl rfl (Nat.le_of_ble_eq_true rfl) dX7_guess_34 ⟨Nat.zero_le _, Nat.zero_le _⟩ ?_
      refine q_aload_n C 0 dX7_guess_37 rfl ?_
      refine q_get C 0 2 dX7_guess_38 rfl rfl (Nat.le_of_ble_eq_true rfl) inX7_guess_X7 lkX7_guess_4 rfl rfl ?_
      refine q_aload_n C 0 dX7_guess_41 rfl ?_
      refine q_get C 0 0 dX7_guess_42 rfl rfl (Nat.le_of_ble_eq_true rfl) inX7_guess_X7 lkX7_guess_1 rfl rfl ?_
      refine q_iload_n C 2 dX7_guess_45 rfl ?_
      obtain ⟨hd_46, hM, hf⟩ := bd_e hf
      refine q_callVV C (List.flatten [xW cI cJ cZ cN cM xa na pa ta ba da ia rc, nW cI cJ cZ cN cM na sz sa mo li lo he, tW cI cJ cZ cN cM ta ri_34 rs_34 gr_34 fm_34 tt_34 co_34 le_34 wa_34 ar_34 hd_46]) (kX6_gather l D cI cJ cZ cN cM ta na ri_34 rs_34 gr_34 fm_34 tt_34 co_34 le_34 wa_34 ar_34 hd sz sa mo li lo he v2 hd_46 hM) (cwV 2 C.1.2.2.2.2 gX7_guess_X6_gather rfl rfl rfl hdX6_gather ⟨Nat.le_of_ble_eq_true rfl, Nat.le_of_ble_eq_true rfl⟩) 6 5 rfl rfl (FrX.blk [xW cI cJ cZ cN cM xa na pa ta ba da ia rc, nW cI cJ cZ cN cM na sz sa mo li lo he, tW cI cJ cZ cN cM ta ri_34 rs_34 gr_34 fm_34 tt_34 co_34 le_34 wa_34 ar_34 hd] [xW cI cJ cZ cN cM xa na pa ta ba da ia rc, nW cI cJ cZ cN cM na sz sa mo li lo he, tW cI cJ cZ cN cM ta ri_34 rs_34 gr_34 fm_34 tt_34 co_34 le_34 wa_34 ar_34 hd_46] [2, 1] [0] 3 rfl rfl (by decide) rfl rfl rfl) rfl rfl (Nat.le_of_ble_eq_true rfl) dX7_guess_46 ⟨Nat.zero_le _, Nat.zero_le _⟩ ?_
      refine q_aload_n C 0 dX7_guess_49 rfl ?_
      refine q_iload_n C 1 dX7_guess_50 rfl ?_
      refine q_iload_n C 2 dX7_guess_51 rfl ?_
      obtain ⟨x52, hM, hf⟩ := bd_e hf
      refine q_callVI C (List.flatten [xW cI cJ cZ cN cM xa na pa ta ba da ia rc, nW cI cJ cZ cN cM na sz sa mo li lo he, tW cI cJ cZ cN cM ta ri_34 rs_34 gr_34 fm_34 tt_34 co_34 le_34 wa_34 ar_34 hd_46]) (kX7_guessOf l D cI cJ cZ cN cM xa na pa ta ba da ia rc ri_34 rs_34 gr_34 fm_34 tt_34 co_34 le_34 wa_34 ar_34 hd_46 v1 v2 x52 hM) (cwV 2 C.1.2.2.2.2 gX7_guess_X7_guessOf rfl rfl rfl hdX7_guessOf ⟨Nat.le_of_ble_eq_true rfl, Nat.le_of_ble_eq_true rfl⟩) 0 6 rfl rfl (FrX.blk [xW cI cJ cZ cN cM xa na pa ta ba da ia rc, nW cI cJ cZ cN cM na sz sa mo li lo he, tW cI cJ cZ cN cM ta ri_34 rs_34 gr_34 fm_34 tt_34 co_34 le_34 wa_34 ar_34 hd_46] [xW cI cJ cZ cN cM xa na pa ta ba da ia rc, nW cI cJ cZ cN cM na sz sa mo li lo he, tW cI cJ cZ cN cM ta ri_34 rs_34 gr_34 fm_34 tt_34 co_34 le_34 wa_34 ar_34 hd_46] [0, 2] [1] 3 rfl rfl (by decide) rfl rfl rfl) rfl rfl (Nat.le_of_ble_eq_true rfl) dX7_guess_52 ⟨Nat.zero_le _, Nat.zero_le _⟩ ?_
      have hy0 := Option.some.inj hf
      clear hf
      obtain ⟨hz1, hy1⟩ := Prod.mk.inj hy0
      clear hy0
      obtain ⟨hz2, hy2⟩ := Prod.mk.inj hy1
      clear hy1
      obtain ⟨hz3, hy3⟩ := Prod.mk.inj hy2
      clear hy2
      obtain ⟨hz4, hy4⟩ := Prod.mk.inj hy3
      clear hy3
      obtain ⟨hz5, hy5⟩ := Prod.mk.inj hy4
      clear hy4
      obtain ⟨hz6, hy6⟩ := Prod.mk.inj hy5
      clear hy5
      obtain ⟨hz7, hy7⟩ := Prod.mk.inj hy6
      clear hy6
      obtain ⟨hz8, hy8⟩ := Prod.mk.inj hy7
      clear hy7
      obtain ⟨hz9, hy9⟩ := Prod.mk.inj hy8
      clear hy8
      obtain ⟨hz10, hy10⟩ := Prod.mk.inj hy9
      clear hy9
      subst hz1
      subst hz2
      subst hz3
      subst hz4
      subst hz5
      subst hz6
      subst hz7
      subst hz8
      subst hz9
      subst hz10
      subst hy10
      exact hret _ _ dX7_guess_55 rfl
    · refine q_ldc C dX7_guess_23 lkX7_guess_3 ?_
      have hy0 := Option.some.inj hf
      clear hf
      obtain ⟨hz1, hy1⟩ := Prod.mk.inj hy0
      clear hy0
      obtain ⟨hz2, hy2⟩ := Prod.mk.inj hy1
      clear hy1
      obtain ⟨hz3, hy3⟩ := Prod.mk.inj hy2
      clear hy2
      obtain ⟨hz4, hy4⟩ := Prod.mk.inj hy3
      clear hy3
      obtain ⟨hz5, hy5⟩ := Prod.mk.inj hy4
      clear hy4
      obtain ⟨hz6, hy6⟩ := Prod.mk.inj hy5
      clear hy5
      obtain ⟨hz7, hy7⟩ := Prod.mk.inj hy6
      clear hy6
      obtain ⟨hz8, hy8⟩ := Prod.mk.inj hy7
      clear hy7
      obtain ⟨hz9, hy9⟩ := Prod.mk.inj hy8
      clear hy8
      obtain ⟨hz10, hy10⟩ := Prod.mk.inj hy9
      clear hy9
      subst hz1
      subst hz2
      subst hz3
      subst hz4
      subst hz5
      subst hz6
      subst hz7
      subst hz8
      subst hz9
      subst hz10
      subst hy10
      exact hret _ _ dX7_guess_25 rfl
  · refine q_ldc C dX7_guess_11 lkX7_guess_2 ?_
    have hy0 := Option.some.inj hf
    clear hf
    obtain ⟨hz1, hy1⟩ := Prod.mk.inj hy0
    clear hy0
    obtain ⟨hz2, hy2⟩ := Prod.mk.inj hy1
    clear hy1
    obtain ⟨hz3, hy3⟩ := Prod.mk.inj hy2
    clear hy2
    obtain ⟨hz4, hy4⟩ := Prod.mk.inj hy3
    clear hy3
    obtain ⟨hz5, hy5⟩ := Prod.mk.inj hy4
    clear hy4
    obtain ⟨hz6, hy6⟩ := Prod.mk.inj hy5
    clear hy5
    obtain ⟨hz7, hy7⟩ := Prod.mk.inj hy6
    clear hy6
    obtain ⟨hz8, hy8⟩ := Prod.mk.inj hy7
    clear hy7
    obtain ⟨hz9, hy9⟩ := Prod.mk.inj hy8
    clear hy8
    obtain ⟨hz10, hy10⟩ := Prod.mk.inj hy9
    clear hy9
    subst hz1
    subst hz2
    subst hz3
    subst hz4
    subst hz5
    subst hz6
    subst hz7
    subst hz8
    subst hz9
    subst hz10
    subst hy10
    exact hret _ _ dX7_guess_13 rfl

theorem lkX7_off_1 : Cond.constant RX7 105 (-1000000002) ∈ wsX7_off := List.mem_of_getElem? (i := 1) rfl
theorem lkX7_off_2 : Cond.fieldLink RX7 26 "TwiceHeard" "telling" "LTwiceHeard$Telling;" ∈ wsX7_off := List.mem_of_getElem? (i := 2) rfl
theorem lkX7_off_3 : Cond.fieldLink RX7 10 "TwiceHeard" "net" "LTwiceHeard$Net;" ∈ wsX7_off := List.mem_of_getElem? (i := 3) rfl
theorem lkX7_off_4 : Cond.constant RX7 160 (100000) ∈ wsX7_off := List.mem_of_getElem? (i := 4) rfl
theorem inX7_off_X7 : ∀ w ∈ wsX70, w ∈ wsX7_off := fun w h => List.mem_cons_of_mem _ (List.mem_append_left _ (List.mem_append_left _ (List.mem_append_right _ h)))
theorem inX7_off_X6 : ∀ w ∈ wsX60, w ∈ wsX7_off := fun w h => List.mem_cons_of_mem _ (List.mem_append_left _ (List.mem_append_right _ h))
theorem inX7_off_X3 : ∀ w ∈ wsX30, w ∈ wsX7_off := fun w h => List.mem_cons_of_mem _ (List.mem_append_right _ h)
abbrev rmX7_off : Room := { frames := 4, cells := 0, slots := 0, locals := 99 }
theorem hdX7_off : yX7_off.cls = RX7 ∧ yX7_off.cls ≠ "java/lang/invoke/MethodHandle" ∧ yX7_off.cls ≠ "java/lang/invoke/VarHandle" ∧ (parseMethodDescriptor yX7_off.desc).map (fun d => d.parameters.length) = some 1 := by decide +kernel
def fX7_off (sz : Int32) (sa : Int32) (mo : Int32) (li : (Nat → Int32)) (lo : (Nat → Int32)) (he : (Nat → Int32)) (ri : (Nat → Int32)) (rs : (Nat → Int32)) (gr : Int32) (fm : (Nat → Int32)) (tt : (Nat → Int32)) (co : (Nat → Int32)) (le : Int32) (wa : (Nat → Int32)) (ar : (Nat → Int32)) (hd : (Nat → Int64)) (v1 : Int32) : Option (Int32 × (Nat → Int32) × (Nat → Int32) × Int32 × (Nat → Int32) × (Nat → Int32) × (Nat → Int32) × Int32 × (Nat → Int32) × (Nat → Int32) × (Nat → Int64)) :=
  (fX7_within v1 (1 : Int32) (2 : Int32)).bind fun x3 =>
  if x3 = 0 then (
  some ((-1000000002 : Int32), ri, rs, gr, fm, tt, co, le, wa, ar, hd)) else (
  bd9 (fX6_trace ri rs gr fm tt co le wa ar sz mo li lo) fun ri_20 rs_20 gr_20 fm_20 tt_20 co_20 le_20 wa_20 ar_20 =>
  (fX6_gather ri_20 fm_20 tt_20 co_20 le_20 hd sz sa he v1).bind fun hd_32 =>
  (fX7_guessOf ri_20 hd_32 (0 : Int32) v1).bind fun x38 =>
  (fX6_trueCount ri_20 sz he).bind fun x49 =>
  some (((x38 - x49) + (100000 : Int32)), ri_20, rs_20, gr_20, fm_20, tt_20, co_20, le_20, wa_20, ar_20, hd_32))
set_option maxRecDepth 100000 in
set_option maxHeartbeats 4000000 in
theorem kX7_off (l : Launch) (D : va_G) (cI cJ cZ cN cM : ClassId) (xa : Nat → Nat) (na : Nat → Nat) (pa : Nat → Nat) (ta : Nat → Nat) (ba : Nat → Nat) (da : Nat → Nat) (ia : Nat → Nat) (rc : (Nat → Int64)) (sz : Int32) (sa : Int32) (mo : Int32) (li : (Nat → Int32)) (lo : (Nat → Int32)) (he : (Nat → Int32)) (ri : (Nat → Int32)) (rs : (Nat → Int32)) (gr : Int32) (fm : (Nat → Int32)) (tt : (Nat → Int32)) (co : (Nat → Int32)) (le : Int32) (wa : (Nat → Int32)) (ar : (Nat → Int32)) (hd : (Nat → Int64)) (v1 : Int32) (r : Int32) (ri_o : (Nat → Int32)) (rs_o : (Nat → Int32)) (gr_o : Int32) (fm_o : (Nat → Int32)) (tt_o : (Nat → Int32)) (co_o : (Nat → Int32)) (le_o : Int32) (wa_o : (Nat → Int32)) (ar_o : (Nat → Int32)) (hd_o : (Nat → Int64)) (hf : fX7_off sz sa mo li lo he ri rs gr fm tt co le wa ar hd v1 = some (r, ri_o, rs_o, gr_o, fm_o, tt_o, co_o, le_o, wa_o, ar_o, hd_o)) : MetI l yX7_off wsX7_off rmX7_off D (TYL cI cJ cZ cN cM) [.ref (xa 0), .int v1] (List.flatten [xW cI cJ cZ cN cM xa na pa ta ba da ia rc, nW cI cJ cZ cN cM na sz sa mo li lo he, tW cI cJ cZ cN cM ta ri rs gr fm tt co le wa ar hd]) (List.flatten [xW cI cJ cZ cN cM xa na pa ta ba da ia rc, nW cI cJ cZ cN cM na sz sa mo li lo he, tW cI cJ cZ cN cM ta ri_o rs_o gr_o fm_o tt_o co_o le_o wa_o ar_o hd_o]) r := by
  refine MetI.mk (cc := cX7_off) (maxL := 2) (own := RX7) (ty := .int) [(0, .ref (xa 0)), (1, .int v1)] (by decide +kernel) rfl rfl (Nat.le_of_ble_eq_true rfl) rfl ?_
  intro p e s m args below meth c A Q C hret
  unfold fX7_off at hf
  refine q_iload_n C 1 dX7_off_0 rfl ?_
  refine q_iconst C 1 dX7_off_1 (by decide) ?_
  refine q_iconst C 2 dX7_off_2 (by decide) ?_
  obtain ⟨x3, hM, hf⟩ := bd_e hf
  refine q_callSI C (List.flatten [xW cI cJ cZ cN cM xa na pa ta ba da ia rc, nW cI cJ cZ cN cM na sz sa mo li lo he, tW cI cJ cZ cN cM ta ri rs gr fm tt co le wa ar hd]) (kX7_within l D cI cJ cZ cN cM   v1 (1 : Int32) (2 : Int32) x3 hM) (va_cwS 3 C.1.2.2.2.2 gX7_off_X7_within rfl rfl rfl hdX7_within ⟨Nat.le_of_ble_eq_true rfl, Nat.le_of_ble_eq_true rfl⟩) FrX.none rfl rfl (Nat.le_of_ble_eq_true rfl) dX7_off_3 ⟨Nat.zero_le _, Nat.zero_le _⟩ ?_
  refine q_if_ne C 12 dX7_off_6 (by decide) hf (fun hf => ?_) (fun hf => ?_)
  · refine q_aload_n C 0 dX7_off_12 rfl ?_
    refine q_get C 0 2 dX7_off_13 rfl rfl (Nat.le_of_ble_eq_true rfl) inX7_off_X7 lkX7_off_2 rfl rfl ?_
    refine q_aload_n C 0 dX7_off_16 rfl ?_
    refine q_get C 0 0 dX7_off_17 rfl rfl (Nat.le_of_ble_eq_true rfl) inX7_off_X7 lkX7_off_3 rfl rfl ?_
    obtain ⟨ri_20, rs_20, gr_20, fm_20, tt_20, co_20, le_20, wa_20, ar_20, hM, hf⟩ := bd9_e hf
    refine q_callVV C (List.flatten [xW cI cJ cZ cN cM xa na pa ta ba da ia rc, nW cI cJ cZ cN cM na sz sa mo li lo he, tW cI cJ cZ cN cM ta ri_20 rs_20 gr_20 fm_20 tt_20 co_20 le_20 wa_20 ar_20 hd]) (kX6_trace l D cI cJ cZ cN cM ta na ri rs gr fm tt co le wa ar hd sz sa mo li lo he  ri_20 rs_20 gr_20 fm_20 tt_20 co_20 le_20 wa_20 ar_20 hM) (cwV 1 C.1.2.2.2.2 gX7_off_X6_trace rfl rfl rfl hdX6_trace ⟨Nat.le_of_ble_eq_true rfl, Nat.le_of_ble_eq_true rfl⟩) 6 5 rfl rfl (FrX.blk [xW cI cJ cZ cN cM xa na pa ta ba da ia rc, nW cI cJ cZ cN cM na sz sa mo li lo he, tW cI cJ cZ cN cM ta ri rs gr fm tt co le wa ar hd] [xW cI cJ cZ cN cM xa na pa ta ba da ia rc, nW cI cJ cZ cN cM na sz sa mo li lo he, tW cI cJ cZ cN cM ta ri_20 rs_20 gr_20 fm_20 tt_20 co_20 le_20 wa_20 ar_20 hd] [2, 1] [0] 3 rfl rfl (by decide) rfl rfl rfl) rfl rfl (Nat.le_of_ble_eq_true rfl) dX7_off_20 ⟨Nat.zero_le _, Nat.zero_le _⟩ ?_
    refine q_aload_n C 0 dX7_off_23 rfl ?_
    refine q_get C 0 2 dX7_off_24 rfl rfl (Nat.le_of_ble_eq_true rfl) inX7_off_X7 lkX7_off_2 rfl rfl ?_
    refine q_aload_n C 0 dX7_off_27 rfl ?_
    refine q_get C 0 0 dX7_off_28 rfl rfl (Nat.le_of_ble_eq_true rfl) inX7_off_X7 lkX7_off_3 rfl rfl ?_
    refine q_iload_n C 1 dX7_off_31 rfl ?_
    obtain ⟨hd_32, hM, hf⟩ := bd_e hf
    refine q_callVV C (List.flatten [xW cI cJ cZ cN cM xa na pa ta ba da ia rc, nW cI cJ cZ cN cM na sz sa mo li lo he, tW cI cJ cZ cN cM ta ri_20 rs_20 gr_20 fm_20 tt_20 co_20 le_20 wa_20 ar_20 hd_32]) (kX6_gather l D cI cJ cZ cN cM ta na ri_20 rs_20 gr_20 fm_20 tt_20 co_20 le_20 wa_20 ar_20 hd sz sa mo li lo he v1 hd_32 hM) (cwV 2 C.1.2.2.2.2 gX7_off_X6_gather rfl rfl rfl hdX6_gather ⟨Nat.le_of_ble_eq_true rfl, Nat.le_of_ble_eq_true rfl⟩) 6 5 rfl rfl (FrX.blk [xW cI cJ cZ cN cM xa na pa ta ba da ia rc, nW cI cJ cZ cN cM na sz sa mo li lo he, tW cI cJ cZ cN cM ta ri_20 rs_20 gr_20 fm_20 tt_20 co_20 le_20 wa_20 ar_20 hd] [xW cI cJ cZ cN cM xa na pa ta ba da ia rc, nW cI cJ cZ cN cM na sz sa mo li lo he, tW cI cJ cZ cN cM ta ri_20 rs_20 gr_20 fm_20 tt_20 co_20 le_20 wa_20 ar_20 hd_32] [2, 1] [0] 3 rfl rfl (by decide) rfl rfl rfl) rfl rfl (Nat.le_of_ble_eq_true rfl) dX7_off_32 ⟨Nat.zero_le _, Nat.zero_le _⟩ ?_
    refine q_aload_n C 0 dX7_off_35 rfl ?_
    refine q_iconst C 0 dX7_off_36 (by decide) ?_
    refine q_iload_n C 1 dX7_off_37 rfl ?_
    obtain ⟨x38, hM, hf⟩ := bd_e hf
    refine q_callVI C (List.flatten [xW cI cJ cZ cN cM xa na pa ta ba da ia rc, nW cI cJ cZ cN cM na sz sa mo li lo he, tW cI cJ cZ cN cM ta ri_20 rs_20 gr_20 fm_20 tt_20 co_20 le_20 wa_20 ar_20 hd_32]) (kX7_guessOf l D cI cJ cZ cN cM xa na pa ta ba da ia rc ri_20 rs_20 gr_20 fm_20 tt_20 co_20 le_20 wa_20 ar_20 hd_32 (0 : Int32) v1 x38 hM) (cwV 2 C.1.2.2.2.2 gX7_off_X7_guessOf rfl rfl rfl hdX7_guessOf ⟨Nat.le_of_ble_eq_true rfl, Nat.le_of_ble_eq_true rfl⟩) 0 6 rfl rfl (FrX.blk [xW cI cJ cZ cN cM xa na pa ta ba da ia rc, nW cI cJ cZ cN cM na sz sa mo li lo he, tW cI cJ cZ cN cM ta ri_20 rs_20 gr_20 fm_20 tt_20 co_20 le_20 wa_20 ar_20 hd_32] [xW cI cJ cZ cN cM xa na pa ta ba da ia rc, nW cI cJ cZ cN cM na sz sa mo li lo he, tW cI cJ cZ cN cM ta ri_20 rs_20 gr_20 fm_20 tt_20 co_20 le_20 wa_20 ar_20 hd_32] [0, 2] [1] 3 rfl rfl (by decide) rfl rfl rfl) rfl rfl (Nat.le_of_ble_eq_true rfl) dX7_off_38 ⟨Nat.zero_le _, Nat.zero_le _⟩ ?_
    refine q_aload_n C 0 dX7_off_41 rfl ?_
    refine q_get C 0 2 dX7_off_42 rfl rfl (Nat.le_of_ble_eq_true rfl) inX7_off_X7 lkX7_off_2 rfl rfl ?_
    refine q_aload_n C 0 dX7_off_45 rfl ?_
    refine q_get C 0 0 dX7_off_46 rfl rfl (Nat.le_of_ble_eq_true rfl) inX7_off_X7 lkX7_off_3 rfl rfl ?_
    obtain ⟨x49, hM, hf⟩ := bd_e hf
    refine q_callVI C (List.flatten [xW cI cJ cZ cN cM xa na pa ta ba da ia rc, nW cI cJ cZ cN cM na sz sa mo li lo he, tW cI cJ cZ cN cM ta ri_20 rs_20 gr_20 fm_20 tt_20 co_20 le_20 wa_20 ar_20 hd_32]) (kX6_trueCount l D cI cJ cZ cN cM ta na ri_20 rs_20 gr_20 fm_20 tt_20 co_20 le_20 wa_20 ar_20 hd_32 sz sa mo li lo he  x49 hM) (cwV 1 C.1.2.2.2.2 gX7_off_X6_trueCount rfl rfl rfl hdX6_trueCount ⟨Nat.le_of_ble_eq_true rfl, Nat.le_of_ble_eq_true rfl⟩) 6 5 rfl rfl (FrX.blk [xW cI cJ cZ cN cM xa na pa ta ba da ia rc, nW cI cJ cZ cN cM na sz sa mo li lo he, tW cI cJ cZ cN cM ta ri_20 rs_20 gr_20 fm_20 tt_20 co_20 le_20 wa_20 ar_20 hd_32] [xW cI cJ cZ cN cM xa na pa ta ba da ia rc, nW cI cJ cZ cN cM na sz sa mo li lo he, tW cI cJ cZ cN cM ta ri_20 rs_20 gr_20 fm_20 tt_20 co_20 le_20 wa_20 ar_20 hd_32] [2, 1] [0] 3 rfl rfl (by decide) rfl rfl rfl) rfl rfl (Nat.le_of_ble_eq_true rfl) dX7_off_49 ⟨Nat.zero_le _, Nat.zero_le _⟩ ?_
    refine q_isub C dX7_off_52 ?_
    refine q_ldc C dX7_off_53 lkX7_off_4 ?_
    refine q_iadd C dX7_off_55 ?_
    have hy0 := Option.some.inj hf
    clear hf
    obtain ⟨hz1, hy1⟩ := Prod.mk.inj hy0
    clear hy0
    obtain ⟨hz2, hy2⟩ := Prod.mk.inj hy1
    clear hy1
    obtain ⟨hz3, hy3⟩ := Prod.mk.inj hy2
    clear hy2
    obtain ⟨hz4, hy4⟩ := Prod.mk.inj hy3
    clear hy3
    obtain ⟨hz5, hy5⟩ := Prod.mk.inj hy4
    clear hy4
    obtain ⟨hz6, hy6⟩ := Prod.mk.inj hy5
    clear hy5
    obtain ⟨hz7, hy7⟩ := Prod.mk.inj hy6
    clear hy6
    obtain ⟨hz8, hy8⟩ := Prod.mk.inj hy7
    clear hy7
    obtain ⟨hz9, hy9⟩ := Prod.mk.inj hy8
    clear hy8
    obtain ⟨hz10, hy10⟩ := Prod.mk.inj hy9
    clear hy9
    subst hz1
    subst hz2
    subst hz3
    subst hz4
    subst hz5
    subst hz6
    subst hz7
    subst hz8
    subst hz9
    subst hz10
    subst hy10
    exact hret _ _ dX7_off_56 rfl
  · refine q_ldc C dX7_off_9 lkX7_off_1 ?_
    have hy0 := Option.some.inj hf
    clear hf
    obtain ⟨hz1, hy1⟩ := Prod.mk.inj hy0
    clear hy0
    obtain ⟨hz2, hy2⟩ := Prod.mk.inj hy1
    clear hy1
    obtain ⟨hz3, hy3⟩ := Prod.mk.inj hy2
    clear hy2
    obtain ⟨hz4, hy4⟩ := Prod.mk.inj hy3
    clear hy3
    obtain ⟨hz5, hy5⟩ := Prod.mk.inj hy4
    clear hy4
    obtain ⟨hz6, hy6⟩ := Prod.mk.inj hy5
    clear hy5
    obtain ⟨hz7, hy7⟩ := Prod.mk.inj hy6
    clear hy6
    obtain ⟨hz8, hy8⟩ := Prod.mk.inj hy7
    clear hy7
    obtain ⟨hz9, hy9⟩ := Prod.mk.inj hy8
    clear hy8
    obtain ⟨hz10, hy10⟩ := Prod.mk.inj hy9
    clear hy9
    subst hz1
    subst hz2
    subst hz3
    subst hz4
    subst hz5
    subst hz6
    subst hz7
    subst hz8
    subst hz9
    subst hz10
    subst hy10
    exact hret _ _ dX7_off_11 rfl

theorem lkX7_letter_1 : Cond.fieldLink RX7 26 "TwiceHeard" "telling" "LTwiceHeard$Telling;" ∈ wsX7_letter := List.mem_of_getElem? (i := 1) rfl
theorem lkX7_letter_2 : Cond.fieldLink RX7 10 "TwiceHeard" "net" "LTwiceHeard$Net;" ∈ wsX7_letter := List.mem_of_getElem? (i := 2) rfl
theorem lkX7_letter_3 : Cond.fieldLink RX7 91 "TwiceHeard$Telling" "letters" "I" ∈ wsX7_letter := List.mem_of_getElem? (i := 3) rfl
theorem lkX7_letter_4 : Cond.constant RX7 110 (-1000000001) ∈ wsX7_letter := List.mem_of_getElem? (i := 4) rfl
theorem lkX7_letter_5 : Cond.fieldLink RX7 161 "TwiceHeard$Telling" "from" "[I" ∈ wsX7_letter := List.mem_of_getElem? (i := 5) rfl
theorem lkX7_letter_6 : Cond.fieldLink RX7 164 "TwiceHeard$Telling" "to" "[I" ∈ wsX7_letter := List.mem_of_getElem? (i := 6) rfl
theorem lkX7_letter_7 : Cond.fieldLink RX7 167 "TwiceHeard$Telling" "comes" "[Z" ∈ wsX7_letter := List.mem_of_getElem? (i := 7) rfl
theorem lkX7_letter_8 : Cond.constant RX7 105 (-1000000002) ∈ wsX7_letter := List.mem_of_getElem? (i := 8) rfl
theorem inX7_letter_X7 : ∀ w ∈ wsX70, w ∈ wsX7_letter := fun w h => List.mem_cons_of_mem _ (List.mem_append_left _ (List.mem_append_left _ (List.mem_append_right _ h)))
theorem inX7_letter_X6 : ∀ w ∈ wsX60, w ∈ wsX7_letter := fun w h => List.mem_cons_of_mem _ (List.mem_append_left _ (List.mem_append_right _ h))
theorem inX7_letter_X3 : ∀ w ∈ wsX30, w ∈ wsX7_letter := fun w h => List.mem_cons_of_mem _ (List.mem_append_right _ h)
abbrev rmX7_letter : Room := { frames := 4, cells := 0, slots := 0, locals := 91 }
theorem hdX7_letter : yX7_letter.cls = RX7 ∧ yX7_letter.cls ≠ "java/lang/invoke/MethodHandle" ∧ yX7_letter.cls ≠ "java/lang/invoke/VarHandle" ∧ (parseMethodDescriptor yX7_letter.desc).map (fun d => d.parameters.length) = some 2 := by decide +kernel
def fX7_letter (sz : Int32) (mo : Int32) (li : (Nat → Int32)) (lo : (Nat → Int32)) (ri : (Nat → Int32)) (rs : (Nat → Int32)) (gr : Int32) (fm : (Nat → Int32)) (tt : (Nat → Int32)) (co : (Nat → Int32)) (le : Int32) (wa : (Nat → Int32)) (ar : (Nat → Int32)) (v1 : Int32) (v2 : Int32) : Option (Int32 × (Nat → Int32) × (Nat → Int32) × Int32 × (Nat → Int32) × (Nat → Int32) × (Nat → Int32) × Int32 × (Nat → Int32) × (Nat → Int32)) :=
  bd9 (fX6_trace ri rs gr fm tt co le wa ar sz mo li lo) fun ri_8 rs_8 gr_8 fm_8 tt_8 co_8 le_8 wa_8 ar_8 =>
  (fX7_within v1 (0 : Int32) (le_8 - (1 : Int32))).bind fun x22 =>
  if x22 = 0 then (
  some ((-1000000001 : Int32), ri_8, rs_8, gr_8, fm_8, tt_8, co_8, le_8, wa_8, ar_8)) else (
  if v2 = (0 : Int32) then (
  (rdI 36 fm_8 v1).bind fun x68 =>
  some (x68, ri_8, rs_8, gr_8, fm_8, tt_8, co_8, le_8, wa_8, ar_8)) else (
  if v2 = (1 : Int32) then (
  (rdI 36 tt_8 v1).bind fun x78 =>
  some (x78, ri_8, rs_8, gr_8, fm_8, tt_8, co_8, le_8, wa_8, ar_8)) else (
  if v2 = (2 : Int32) then (
  (rdI 36 co_8 v1).bind fun x88 =>
  if x88 = 0 then (
  some ((0 : Int32), ri_8, rs_8, gr_8, fm_8, tt_8, co_8, le_8, wa_8, ar_8)) else (
  some ((1 : Int32), ri_8, rs_8, gr_8, fm_8, tt_8, co_8, le_8, wa_8, ar_8))) else (
  some ((-1000000002 : Int32), ri_8, rs_8, gr_8, fm_8, tt_8, co_8, le_8, wa_8, ar_8)))))
set_option maxRecDepth 100000 in
set_option maxHeartbeats 4000000 in
theorem kX7_letter (l : Launch) (D : va_G) (cI cJ cZ cN cM : ClassId) (xa : Nat → Nat) (na : Nat → Nat) (pa : Nat → Nat) (ta : Nat → Nat) (ba : Nat → Nat) (da : Nat → Nat) (ia : Nat → Nat) (rc : (Nat → Int64)) (sz : Int32) (sa : Int32) (mo : Int32) (li : (Nat → Int32)) (lo : (Nat → Int32)) (he : (Nat → Int32)) (ri : (Nat → Int32)) (rs : (Nat → Int32)) (gr : Int32) (fm : (Nat → Int32)) (tt : (Nat → Int32)) (co : (Nat → Int32)) (le : Int32) (wa : (Nat → Int32)) (ar : (Nat → Int32)) (hd : (Nat → Int64)) (v1 : Int32) (v2 : Int32) (r : Int32) (ri_o : (Nat → Int32)) (rs_o : (Nat → Int32)) (gr_o : Int32) (fm_o : (Nat → Int32)) (tt_o : (Nat → Int32)) (co_o : (Nat → Int32)) (le_o : Int32) (wa_o : (Nat → Int32)) (ar_o : (Nat → Int32)) (hf : fX7_letter sz mo li lo ri rs gr fm tt co le wa ar v1 v2 = some (r, ri_o, rs_o, gr_o, fm_o, tt_o, co_o, le_o, wa_o, ar_o)) : MetI l yX7_letter wsX7_letter rmX7_letter D (TYL cI cJ cZ cN cM) [.ref (xa 0), .int v1, .int v2] (List.flatten [xW cI cJ cZ cN cM xa na pa ta ba da ia rc, nW cI cJ cZ cN cM na sz sa mo li lo he, tW cI cJ cZ cN cM ta ri rs gr fm tt co le wa ar hd]) (List.flatten [xW cI cJ cZ cN cM xa na pa ta ba da ia rc, nW cI cJ cZ cN cM na sz sa mo li lo he, tW cI cJ cZ cN cM ta ri_o rs_o gr_o fm_o tt_o co_o le_o wa_o ar_o hd]) r := by
  refine MetI.mk (cc := cX7_letter) (maxL := 3) (own := RX7) (ty := .int) [(0, .ref (xa 0)), (1, .int v1), (2, .int v2)] (by decide +kernel) rfl rfl (Nat.le_of_ble_eq_true rfl) rfl ?_
  intro p e s m args below meth c A Q C hret
  unfold fX7_letter at hf
  refine q_aload_n C 0 dX7_letter_0 rfl ?_
  refine q_get C 0 2 dX7_letter_1 rfl rfl (Nat.le_of_ble_eq_true rfl) inX7_letter_X7 lkX7_letter_1 rfl rfl ?_
  refine q_aload_n C 0 dX7_letter_4 rfl ?_
  refine q_get C 0 0 dX7_letter_5 rfl rfl (Nat.le_of_ble_eq_true rfl) inX7_letter_X7 lkX7_letter_2 rfl rfl ?_
  obtain ⟨ri_8, rs_8, gr_8, fm_8, tt_8, co_8, le_8, wa_8, ar_8, hM, hf⟩ := bd9_e hf
  refine q_callVV C (List.flatten [xW cI cJ cZ cN cM xa na pa ta ba da ia rc, nW cI cJ cZ cN cM na sz sa mo li lo he, tW cI cJ cZ cN cM ta ri_8 rs_8 gr_8 fm_8 tt_8 co_8 le_8 wa_8 ar_8 hd]) (kX6_trace l D cI cJ cZ cN cM ta na ri rs gr fm tt co le wa ar hd sz sa mo li lo he  ri_8 rs_8 gr_8 fm_8 tt_8 co_8 le_8 wa_8 ar_8 hM) (cwV 1 C.1.2.2.2.2 gX7_letter_X6_trace rfl rfl rfl hdX6_trace ⟨Nat.le_of_ble_eq_true rfl, Nat.le_of_ble_eq_true rfl⟩) 6 5 rfl rfl (FrX.blk [xW cI cJ cZ cN cM xa na pa ta ba da ia rc, nW cI cJ cZ cN cM na sz sa mo li lo he, tW cI cJ cZ cN cM ta ri rs gr fm tt co le wa ar hd] [xW cI cJ cZ cN cM xa na pa ta ba da ia rc, nW cI cJ cZ cN cM na sz sa mo li lo he, tW cI cJ cZ cN cM ta ri_8 rs_8 gr_8 fm_8 tt_8 co_8 le_8 wa_8 ar_8 hd] [2, 1] [0] 3 rfl rfl (by decide) rfl rfl rfl) rfl rfl (Nat.le_of_ble_eq_true rfl) dX7_letter_8 ⟨Nat.zero_le _, Nat.zero_le _⟩ ?_
  refine q_iload_n C 1 dX7_letter_11 rfl ?_
  refine q_iconst C 0 dX7_letter_12 (by decide) ?_
  refine q_aload_n C 0 dX7_letter_13 rfl ?_
  refine q_get C 0 2 dX7_letter_14 rfl rfl (Nat.le_of_ble_eq_true rfl) inX7_letter_X7 lkX7_letter_1 rfl rfl ?_
  refine q_get C 6 6 dX7_letter_17 rfl rfl (Nat.le_of_ble_eq_true rfl) inX7_letter_X6 lkX7_letter_3 rfl rfl ?_
  refine q_iconst C 1 dX7_letter_20 (by decide) ?_
  refine q_isub C dX7_letter_21 ?_
  obtain ⟨x22, hM, hf⟩ := bd_e hf
  refine q_callSI C (List.flatten [xW cI cJ cZ cN cM xa na pa ta ba da ia rc, nW cI cJ cZ cN cM na sz sa mo li lo he, tW cI cJ cZ cN cM ta ri_8 rs_8 gr_8 fm_8 tt_8 co_8 le_8 wa_8 ar_8 hd]) (kX7_within l D cI cJ cZ cN cM   v1 (0 : Int32) (le_8 - (1 : Int32)) x22 hM) (va_cwS 3 C.1.2.2.2.2 gX7_letter_X7_within rfl rfl rfl hdX7_within ⟨Nat.le_of_ble_eq_true rfl, Nat.le_of_ble_eq_true rfl⟩) FrX.none rfl rfl (Nat.le_of_ble_eq_true rfl) dX7_letter_22 ⟨Nat.zero_le _, Nat.zero_le _⟩ ?_
  refine q_if_ne C 31 dX7_letter_25 (by decide) hf (fun hf => ?_) (fun hf => ?_)
  · refine q_iload_n C 2 dX7_letter_31 rfl ?_
    refine q_sw C 0 28 0 60 dX7_letter_32 rfl (by decide) (by decide) rfl (by decide) hf (fun hf => ?_) (fun hn0 hf => ?_)
    · refine q_aload_n C 0 dX7_letter_60 rfl ?_
      refine q_get C 0 2 dX7_letter_61 rfl rfl (Nat.le_of_ble_eq_true rfl) inX7_letter_X7 lkX7_letter_1 rfl rfl ?_
      refine q_get C 6 3 dX7_letter_64 rfl rfl (Nat.le_of_ble_eq_true rfl) inX7_letter_X6 lkX7_letter_5 rfl rfl ?_
      refine q_iload_n C 1 dX7_letter_67 rfl ?_
      refine q_iald C 9 0 dX7_letter_68 rfl rfl hf (fun x68 hf => ?_)
      have hy0 := Option.some.inj hf
      clear hf
      obtain ⟨hz1, hy1⟩ := Prod.mk.inj hy0
      clear hy0
      obtain ⟨hz2, hy2⟩ := Prod.mk.inj hy1
      clear hy1
      obtain ⟨hz3, hy3⟩ := Prod.mk.inj hy2
      clear hy2
      obtain ⟨hz4, hy4⟩ := Prod.mk.inj hy3
      clear hy3
      obtain ⟨hz5, hy5⟩ := Prod.mk.inj hy4
      clear hy4
      obtain ⟨hz6, hy6⟩ := Prod.mk.inj hy5
      clear hy5
      obtain ⟨hz7, hy7⟩ := Prod.mk.inj hy6
      clear hy6
      obtain ⟨hz8, hy8⟩ := Prod.mk.inj hy7
      clear hy7
      obtain ⟨hz9, hy9⟩ := Prod.mk.inj hy8
      clear hy8
      subst hz1
      subst hz2
      subst hz3
      subst hz4
      subst hz5
      subst hz6
      subst hz7
      subst hz8
      subst hz9
      subst hy9
      exact hret _ _ dX7_letter_69 rfl
    refine q_sw C 1 38 1 70 dX7_letter_32 rfl (by decide) (by decide) rfl (by decide) hf (fun hf => ?_) (fun hn1 hf => ?_)
    · refine q_aload_n C 0 dX7_letter_70 rfl ?_
      refine q_get C 0 2 dX7_letter_71 rfl rfl (Nat.le_of_ble_eq_true rfl) inX7_letter_X7 lkX7_letter_1 rfl rfl ?_
      refine q_get C 6 4 dX7_letter_74 rfl rfl (Nat.le_of_ble_eq_true rfl) inX7_letter_X6 lkX7_letter_6 rfl rfl ?_
      refine q_iload_n C 1 dX7_letter_77 rfl ?_
      refine q_iald C 10 0 dX7_letter_78 rfl rfl hf (fun x78 hf => ?_)
      have hy0 := Option.some.inj hf
      clear hf
      obtain ⟨hz1, hy1⟩ := Prod.mk.inj hy0
      clear hy0
      obtain ⟨hz2, hy2⟩ := Prod.mk.inj hy1
      clear hy1
      obtain ⟨hz3, hy3⟩ := Prod.mk.inj hy2
      clear hy2
      obtain ⟨hz4, hy4⟩ := Prod.mk.inj hy3
      clear hy3
      obtain ⟨hz5, hy5⟩ := Prod.mk.inj hy4
      clear hy4
      obtain ⟨hz6, hy6⟩ := Prod.mk.inj hy5
      clear hy5
      obtain ⟨hz7, hy7⟩ := Prod.mk.inj hy6
      clear hy6
      obtain ⟨hz8, hy8⟩ := Prod.mk.inj hy7
      clear hy7
      obtain ⟨hz9, hy9⟩ := Prod.mk.inj hy8
      clear hy8
      subst hz1
      subst hz2
      subst hz3
      subst hz4
      subst hz5
      subst hz6
      subst hz7
      subst hz8
      subst hz9
      subst hy9
      exact hret _ _ dX7_letter_79 rfl
    refine q_sw C 2 48 2 80 dX7_letter_32 rfl (by decide) (by decide) rfl (by decide) hf (fun hf => ?_) (fun hn2 hf => ?_)
    · refine q_aload_n C 0 dX7_letter_80 rfl ?_
      refine q_get C 0 2 dX7_letter_81 rfl rfl (Nat.le_of_ble_eq_true rfl) inX7_letter_X7 lkX7_letter_1 rfl rfl ?_
      refine q_get C 6 5 dX7_letter_84 rfl rfl (Nat.le_of_ble_eq_true rfl) inX7_letter_X6 lkX7_letter_7 rfl rfl ?_
      refine q_iload_n C 1 dX7_letter_87 rfl ?_
      refine q_zald C 11 2 dX7_letter_88 rfl rfl hf (fun x88 hf => ?_)
      refine q_if_eq C 96 dX7_letter_89 (by decide) hf (fun hf => ?_) (fun hf => ?_)
      · refine q_iconst C 0 dX7_letter_96 (by decide) ?_
        have hy0 := Option.some.inj hf
        clear hf
        obtain ⟨hz1, hy1⟩ := Prod.mk.inj hy0
        clear hy0
        obtain ⟨hz2, hy2⟩ := Prod.mk.inj hy1
        clear hy1
        obtain ⟨hz3, hy3⟩ := Prod.mk.inj hy2
        clear hy2
        obtain ⟨hz4, hy4⟩ := Prod.mk.inj hy3
        clear hy3
        obtain ⟨hz5, hy5⟩ := Prod.mk.inj hy4
        clear hy4
        obtain ⟨hz6, hy6⟩ := Prod.mk.inj hy5
        clear hy5
        obtain ⟨hz7, hy7⟩ := Prod.mk.inj hy6
        clear hy6
        obtain ⟨hz8, hy8⟩ := Prod.mk.inj hy7
        clear hy7
        obtain ⟨hz9, hy9⟩ := Prod.mk.inj hy8
        clear hy8
        subst hz1
        subst hz2
        subst hz3
        subst hz4
        subst hz5
        subst hz6
        subst hz7
        subst hz8
        subst hz9
        subst hy9
        exact hret _ _ dX7_letter_97 rfl
      · refine q_iconst C 1 dX7_letter_92 (by decide) ?_
        refine q_goto C 97 dX7_letter_93 (by decide) ?_
        have hy0 := Option.some.inj hf
        clear hf
        obtain ⟨hz1, hy1⟩ := Prod.mk.inj hy0
        clear hy0
        obtain ⟨hz2, hy2⟩ := Prod.mk.inj hy1
        clear hy1
        obtain ⟨hz3, hy3⟩ := Prod.mk.inj hy2
        clear hy2
        obtain ⟨hz4, hy4⟩ := Prod.mk.inj hy3
        clear hy3
        obtain ⟨hz5, hy5⟩ := Prod.mk.inj hy4
        clear hy4
        obtain ⟨hz6, hy6⟩ := Prod.mk.inj hy5
        clear hy5
        obtain ⟨hz7, hy7⟩ := Prod.mk.inj hy6
        clear hy6
        obtain ⟨hz8, hy8⟩ := Prod.mk.inj hy7
        clear hy7
        obtain ⟨hz9, hy9⟩ := Prod.mk.inj hy8
        clear hy8
        subst hz1
        subst hz2
        subst hz3
        subst hz4
        subst hz5
        subst hz6
        subst hz7
        subst hz8
        subst hz9
        subst hy9
        exact hret _ _ dX7_letter_97 rfl
    have e0 := lv_neT (a := 0) hn0 rfl
    have e1 := lv_neT (a := 1) hn1 rfl
    have e2 := lv_neT (a := 2) hn2 rfl
    refine q_swD C 98 dX7_letter_32 (by omega) (by decide) ?_
    refine q_ldc C dX7_letter_98 lkX7_letter_8 ?_
    have hy0 := Option.some.inj hf
    clear hf
    obtain ⟨hz1, hy1⟩ := Prod.mk.inj hy0
    clear hy0
    obtain ⟨hz2, hy2⟩ := Prod.mk.inj hy1
    clear hy1
    obtain ⟨hz3, hy3⟩ := Prod.mk.inj hy2
    clear hy2
    obtain ⟨hz4, hy4⟩ := Prod.mk.inj hy3
    clear hy3
    obtain ⟨hz5, hy5⟩ := Prod.mk.inj hy4
    clear hy4
    obtain ⟨hz6, hy6⟩ := Prod.mk.inj hy5
    clear hy5
    obtain ⟨hz7, hy7⟩ := Prod.mk.inj hy6
    clear hy6
    obtain ⟨hz8, hy8⟩ := Prod.mk.inj hy7
    clear hy7
    obtain ⟨hz9, hy9⟩ := Prod.mk.inj hy8
    clear hy8
    subst hz1
    subst hz2
    subst hz3
    subst hz4
    subst hz5
    subst hz6
    subst hz7
    subst hz8
    subst hz9
    subst hy9
    exact hret _ _ dX7_letter_100 rfl
  · refine q_ldc C dX7_letter_28 lkX7_letter_4 ?_
    have hy0 := Option.some.inj hf
    clear hf
    obtain ⟨hz1, hy1⟩ := Prod.mk.inj hy0
    clear hy0
    obtain ⟨hz2, hy2⟩ := Prod.mk.inj hy1
    clear hy1
    obtain ⟨hz3, hy3⟩ := Prod.mk.inj hy2
    clear hy2
    obtain ⟨hz4, hy4⟩ := Prod.mk.inj hy3
    clear hy3
    obtain ⟨hz5, hy5⟩ := Prod.mk.inj hy4
    clear hy4
    obtain ⟨hz6, hy6⟩ := Prod.mk.inj hy5
    clear hy5
    obtain ⟨hz7, hy7⟩ := Prod.mk.inj hy6
    clear hy6
    obtain ⟨hz8, hy8⟩ := Prod.mk.inj hy7
    clear hy7
    obtain ⟨hz9, hy9⟩ := Prod.mk.inj hy8
    clear hy8
    subst hz1
    subst hz2
    subst hz3
    subst hz4
    subst hz5
    subst hz6
    subst hz7
    subst hz8
    subst hz9
    subst hy9
    exact hret _ _ dX7_letter_30 rfl

theorem lkX7_sent_1 : Cond.fieldLink RX7 26 "TwiceHeard" "telling" "LTwiceHeard$Telling;" ∈ wsX7_sent := List.mem_of_getElem? (i := 1) rfl
theorem lkX7_sent_2 : Cond.fieldLink RX7 10 "TwiceHeard" "net" "LTwiceHeard$Net;" ∈ wsX7_sent := List.mem_of_getElem? (i := 2) rfl
theorem lkX7_sent_3 : Cond.fieldLink RX7 91 "TwiceHeard$Telling" "letters" "I" ∈ wsX7_sent := List.mem_of_getElem? (i := 3) rfl
theorem lkX7_sent_4 : Cond.constantLong RX7 146 (-1000000001) ∈ wsX7_sent := List.mem_of_getElem? (i := 4) rfl
theorem lkX7_sent_5 : Cond.constantLong RX7 148 (-1000000002) ∈ wsX7_sent := List.mem_of_getElem? (i := 5) rfl
theorem lkX7_sent_6 : Cond.fieldLink RX7 154 "TwiceHeard$Telling" "held" "[J" ∈ wsX7_sent := List.mem_of_getElem? (i := 6) rfl
theorem lkX7_sent_7 : Cond.fieldLink RX7 161 "TwiceHeard$Telling" "from" "[I" ∈ wsX7_sent := List.mem_of_getElem? (i := 7) rfl
theorem inX7_sent_X7 : ∀ w ∈ wsX70, w ∈ wsX7_sent := fun w h => List.mem_cons_of_mem _ (List.mem_append_left _ (List.mem_append_left _ (List.mem_append_right _ h)))
theorem inX7_sent_X6 : ∀ w ∈ wsX60, w ∈ wsX7_sent := fun w h => List.mem_cons_of_mem _ (List.mem_append_left _ (List.mem_append_right _ h))
theorem inX7_sent_X3 : ∀ w ∈ wsX30, w ∈ wsX7_sent := fun w h => List.mem_cons_of_mem _ (List.mem_append_right _ h)
abbrev rmX7_sent : Room := { frames := 4, cells := 0, slots := 0, locals := 99 }
theorem hdX7_sent : yX7_sent.cls = RX7 ∧ yX7_sent.cls ≠ "java/lang/invoke/MethodHandle" ∧ yX7_sent.cls ≠ "java/lang/invoke/VarHandle" ∧ (parseMethodDescriptor yX7_sent.desc).map (fun d => d.parameters.length) = some 2 := by decide +kernel
def fX7_sent (sz : Int32) (sa : Int32) (mo : Int32) (li : (Nat → Int32)) (lo : (Nat → Int32)) (he : (Nat → Int32)) (ri : (Nat → Int32)) (rs : (Nat → Int32)) (gr : Int32) (fm : (Nat → Int32)) (tt : (Nat → Int32)) (co : (Nat → Int32)) (le : Int32) (wa : (Nat → Int32)) (ar : (Nat → Int32)) (hd : (Nat → Int64)) (v1 : Int32) (v2 : Int32) : Option (Int64 × (Nat → Int32) × (Nat → Int32) × Int32 × (Nat → Int32) × (Nat → Int32) × (Nat → Int32) × Int32 × (Nat → Int32) × (Nat → Int32) × (Nat → Int64)) :=
  bd9 (fX6_trace ri rs gr fm tt co le wa ar sz mo li lo) fun ri_8 rs_8 gr_8 fm_8 tt_8 co_8 le_8 wa_8 ar_8 =>
  (fX7_within v1 (0 : Int32) (le_8 - (1 : Int32))).bind fun x22 =>
  if x22 = 0 then (
  some ((-1000000001 : Int64), ri_8, rs_8, gr_8, fm_8, tt_8, co_8, le_8, wa_8, ar_8, hd)) else (
  (fX7_within v2 (0 : Int32) (3 : Int32)).bind fun x35 =>
  if x35 = 0 then (
  some ((-1000000002 : Int64), ri_8, rs_8, gr_8, fm_8, tt_8, co_8, le_8, wa_8, ar_8, hd)) else (
  (fX6_gather ri_8 fm_8 tt_8 co_8 le_8 hd sz sa he v2).bind fun hd_54 =>
  (rdI 36 fm_8 v1).bind fun x72 =>
  (rdL 9 hd_54 x72).bind fun x73 =>
  some (x73, ri_8, rs_8, gr_8, fm_8, tt_8, co_8, le_8, wa_8, ar_8, hd_54)))
set_option maxRecDepth 100000 in
set_option maxHeartbeats 4000000 in
theorem kX7_sent (l : Launch) (D : va_G) (cI cJ cZ cN cM : ClassId) (xa : Nat → Nat) (na : Nat → Nat) (pa : Nat → Nat) (ta : Nat → Nat) (ba : Nat → Nat) (da : Nat → Nat) (ia : Nat → Nat) (rc : (Nat → Int64)) (sz : Int32) (sa : Int32) (mo : Int32) (li : (Nat → Int32)) (lo : (Nat → Int32)) (he : (Nat → Int32)) (ri : (Nat → Int32)) (rs : (Nat → Int32)) (gr : Int32) (fm : (Nat → Int32)) (tt : (Nat → Int32)) (co : (Nat → Int32)) (le : Int32) (wa : (Nat → Int32)) (ar : (Nat → Int32)) (hd : (Nat → Int64)) (v1 : Int32) (v2 : Int32) (r : Int64) (ri_o : (Nat → Int32)) (rs_o : (Nat → Int32)) (gr_o : Int32) (fm_o : (Nat → Int32)) (tt_o : (Nat → Int32)) (co_o : (Nat → Int32)) (le_o : Int32) (wa_o : (Nat → Int32)) (ar_o : (Nat → Int32)) (hd_o : (Nat → Int64)) (hf : fX7_sent sz sa mo li lo he ri rs gr fm tt co le wa ar hd v1 v2 = some (r, ri_o, rs_o, gr_o, fm_o, tt_o, co_o, le_o, wa_o, ar_o, hd_o)) : MetL l yX7_sent wsX7_sent rmX7_sent D (TYL cI cJ cZ cN cM) [.ref (xa 0), .int v1, .int v2] (List.flatten [xW cI cJ cZ cN cM xa na pa ta ba da ia rc, nW cI cJ cZ cN cM na sz sa mo li lo he, tW cI cJ cZ cN cM ta ri rs gr fm tt co le wa ar hd]) (List.flatten [xW cI cJ cZ cN cM xa na pa ta ba da ia rc, nW cI cJ cZ cN cM na sz sa mo li lo he, tW cI cJ cZ cN cM ta ri_o rs_o gr_o fm_o tt_o co_o le_o wa_o ar_o hd_o]) r := by
  refine MetL.mk (cc := cX7_sent) (maxL := 3) (own := RX7) [(0, .ref (xa 0)), (1, .int v1), (2, .int v2)] (by decide +kernel) rfl rfl (Nat.le_of_ble_eq_true rfl) rfl ?_
  intro p e s m args below meth c A Q C hret
  unfold fX7_sent at hf
  refine q_aload_n C 0 dX7_sent_0 rfl ?_
  refine q_get C 0 2 dX7_sent_1 rfl rfl (Nat.le_of_ble_eq_true rfl) inX7_sent_X7 lkX7_sent_1 rfl rfl ?_
  refine q_aload_n C 0 dX7_sent_4 rfl ?_
  refine q_get C 0 0 dX7_sent_5 rfl rfl (Nat.le_of_ble_eq_true rfl) inX7_sent_X7 lkX7_sent_2 rfl rfl ?_
  obtain ⟨ri_8, rs_8, gr_8, fm_8, tt_8, co_8, le_8, wa_8, ar_8, hM, hf⟩ := bd9_e hf
  refine q_callVV C (List.flatten [xW cI cJ cZ cN cM xa na pa ta ba da ia rc, nW cI cJ cZ cN cM na sz sa mo li lo he, tW cI cJ cZ cN cM ta ri_8 rs_8 gr_8 fm_8 tt_8 co_8 le_8 wa_8 ar_8 hd]) (kX6_trace l D cI cJ cZ cN cM ta na ri rs gr fm tt co le wa ar hd sz sa mo li lo he  ri_8 rs_8 gr_8 fm_8 tt_8 co_8 le_8 wa_8 ar_8 hM) (cwV 1 C.1.2.2.2.2 gX7_sent_X6_trace rfl rfl rfl hdX6_trace ⟨Nat.le_of_ble_eq_true rfl, Nat.le_of_ble_eq_true rfl⟩) 6 5 rfl rfl (FrX.blk [xW cI cJ cZ cN cM xa na pa ta ba da ia rc, nW cI cJ cZ cN cM na sz sa mo li lo he, tW cI cJ cZ cN cM ta ri rs gr fm tt co le wa ar hd] [xW cI cJ cZ cN cM xa na pa ta ba da ia rc, nW cI cJ cZ cN cM na sz sa mo li lo he, tW cI cJ cZ cN cM ta ri_8 rs_8 gr_8 fm_8 tt_8 co_8 le_8 wa_8 ar_8 hd] [2, 1] [0] 3 rfl rfl (by decide) rfl rfl rfl) rfl rfl (Nat.le_of_ble_eq_true rfl) dX7_sent_8 ⟨Nat.zero_le _, Nat.zero_le _⟩ ?_
  refine q_iload_n C 1 dX7_sent_11 rfl ?_
  refine q_iconst C 0 dX7_sent_12 (by decide) ?_
  refine q_aload_n C 0 dX7_sent_13 rfl ?_
  refine q_get C 0 2 dX7_sent_14 rfl rfl (Nat.le_of_ble_eq_true rfl) inX7_sent_X7 lkX7_sent_1 rfl rfl ?_
  refine q_get C 6 6 dX7_sent_17 rfl rfl (Nat.le_of_ble_eq_true rfl) inX7_sent_X6 lkX7_sent_3 rfl rfl ?_
  refine q_iconst C 1 dX7_sent_20 (by decide) ?_
  refine q_isub C dX7_sent_21 ?_
  obtain ⟨x22, hM, hf⟩ := bd_e hf
  refine q_callSI C (List.flatten [xW cI cJ cZ cN cM xa na pa ta ba da ia rc, nW cI cJ cZ cN cM na sz sa mo li lo he, tW cI cJ cZ cN cM ta ri_8 rs_8 gr_8 fm_8 tt_8 co_8 le_8 wa_8 ar_8 hd]) (kX7_within l D cI cJ cZ cN cM   v1 (0 : Int32) (le_8 - (1 : Int32)) x22 hM) (va_cwS 3 C.1.2.2.2.2 gX7_sent_X7_within rfl rfl rfl hdX7_within ⟨Nat.le_of_ble_eq_true rfl, Nat.le_of_ble_eq_true rfl⟩) FrX.none rfl rfl (Nat.le_of_ble_eq_true rfl) dX7_sent_22 ⟨Nat.zero_le _, Nat.zero_le _⟩ ?_
  refine q_if_ne C 32 dX7_sent_25 (by decide) hf (fun hf => ?_) (fun hf => ?_)
  · refine q_iload_n C 2 dX7_sent_32 rfl ?_
    refine q_iconst C 0 dX7_sent_33 (by decide) ?_
    refine q_iconst C 3 dX7_sent_34 (by decide) ?_
    obtain ⟨x35, hM, hf⟩ := bd_e hf
    refine q_callSI C (List.flatten [xW cI cJ cZ cN cM xa na pa ta ba da ia rc, nW cI cJ cZ cN cM na sz sa mo li lo he, tW cI cJ cZ cN cM ta ri_8 rs_8 gr_8 fm_8 tt_8 co_8 le_8 wa_8 ar_8 hd]) (kX7_within l D cI cJ cZ cN cM   v2 (0 : Int32) (3 : Int32) x35 hM) (va_cwS 3 C.1.2.2.2.2 gX7_sent_X7_within rfl rfl rfl hdX7_within ⟨Nat.le_of_ble_eq_true rfl, Nat.le_of_ble_eq_true rfl⟩) FrX.none rfl rfl (Nat.le_of_ble_eq_true rfl) dX7_sent_35 ⟨Nat.zero_le _, Nat.zero_le _⟩ ?_
    refine q_if_ne C 45 dX7_sent_38 (by decide) hf (fun hf => ?_) (fun hf => ?_)
    · refine q_aload_n C 0 dX7_sent_45 rfl ?_
      refine q_get C 0 2 dX7_sent_46 rfl rfl (Nat.le_of_ble_eq_true rfl) inX7_sent_X7 lkX7_sent_1 rfl rfl ?_
      refine q_aload_n C 0 dX7_sent_49 rfl ?_
      refine q_get C 0 0 dX7_sent_50 rfl rfl (Nat.le_of_ble_eq_true rfl) inX7_sent_X7 lkX7_sent_2 rfl rfl ?_
      refine q_iload_n C 2 dX7_sent_53 rfl ?_
      obtain ⟨hd_54, hM, hf⟩ := bd_e hf
      refine q_callVV C (List.flatten [xW cI cJ cZ cN cM xa na pa ta ba da ia rc, nW cI cJ cZ cN cM na sz sa mo li lo he, tW cI cJ cZ cN cM ta ri_8 rs_8 gr_8 fm_8 tt_8 co_8 le_8 wa_8 ar_8 hd_54]) (kX6_gather l D cI cJ cZ cN cM ta na ri_8 rs_8 gr_8 fm_8 tt_8 co_8 le_8 wa_8 ar_8 hd sz sa mo li lo he v2 hd_54 hM) (cwV 2 C.1.2.2.2.2 gX7_sent_X6_gather rfl rfl rfl hdX6_gather ⟨Nat.le_of_ble_eq_true rfl, Nat.le_of_ble_eq_true rfl⟩) 6 5 rfl rfl (FrX.blk [xW cI cJ cZ cN cM xa na pa ta ba da ia rc, nW cI cJ cZ cN cM na sz sa mo li lo he, tW cI cJ cZ cN cM ta ri_8 rs_8 gr_8 fm_8 tt_8 co_8 le_8 wa_8 ar_8 hd] [xW cI cJ cZ cN cM xa na pa ta ba da ia rc, nW cI cJ cZ cN cM na sz sa mo li lo he, tW cI cJ cZ cN cM ta ri_8 rs_8 gr_8 fm_8 tt_8 co_8 le_8 wa_8 ar_8 hd_54] [2, 1] [0] 3 rfl rfl (by decide) rfl rfl rfl) rfl rfl (Nat.le_of_ble_eq_true rfl) dX7_sent_54 ⟨Nat.zero_le _, Nat.zero_le _⟩ ?_
      refine q_aload_n C 0 dX7_sent_57 rfl ?_
      refine q_get C 0 2 dX7_sent_58 rfl rfl (Nat.le_of_ble_eq_true rfl) inX7_sent_X7 lkX7_sent_1 rfl rfl ?_
      refine q_get C 6 9 dX7_sent_61 rfl rfl (Nat.le_of_ble_eq_true rfl) inX7_sent_X6 lkX7_sent_6 rfl rfl ?_
      refine q_aload_n C 0 dX7_sent_64 rfl ?_
      refine q_get C 0 2 dX7_sent_65 rfl rfl (Nat.le_of_ble_eq_true rfl) inX7_sent_X7 lkX7_sent_1 rfl rfl ?_
      refine q_get C 6 3 dX7_sent_68 rfl rfl (Nat.le_of_ble_eq_true rfl) inX7_sent_X6 lkX7_sent_7 rfl rfl ?_
      refine q_iload_n C 1 dX7_sent_71 rfl ?_
      refine q_iald C 9 0 dX7_sent_72 rfl rfl hf (fun x72 hf => ?_)
      refine q_lald C 14 1 dX7_sent_73 rfl rfl hf (fun x73 hf => ?_)
      have hy0 := Option.some.inj hf
      clear hf
      obtain ⟨hz1, hy1⟩ := Prod.mk.inj hy0
      clear hy0
      obtain ⟨hz2, hy2⟩ := Prod.mk.inj hy1
      clear hy1
      obtain ⟨hz3, hy3⟩ := Prod.mk.inj hy2
      clear hy2
      obtain ⟨hz4, hy4⟩ := Prod.mk.inj hy3
      clear hy3
      obtain ⟨hz5, hy5⟩ := Prod.mk.inj hy4
      clear hy4
      obtain ⟨hz6, hy6⟩ := Prod.mk.inj hy5
      clear hy5
      obtain ⟨hz7, hy7⟩ := Prod.mk.inj hy6
      clear hy6
      obtain ⟨hz8, hy8⟩ := Prod.mk.inj hy7
      clear hy7
      obtain ⟨hz9, hy9⟩ := Prod.mk.inj hy8
      clear hy8
      obtain ⟨hz10, hy10⟩ := Prod.mk.inj hy9
      clear hy9
      subst hz1
      subst hz2
      subst hz3
      subst hz4
      subst hz5
      subst hz6
      subst hz7
      subst hz8
      subst hz9
      subst hz10
      subst hy10
      exact hret _ _ dX7_sent_74
    · refine q_ldc2 C dX7_sent_41 lkX7_sent_5 ?_
      have hy0 := Option.some.inj hf
      clear hf
      obtain ⟨hz1, hy1⟩ := Prod.mk.inj hy0
      clear hy0
      obtain ⟨hz2, hy2⟩ := Prod.mk.inj hy1
      clear hy1
      obtain ⟨hz3, hy3⟩ := Prod.mk.inj hy2
      clear hy2
      obtain ⟨hz4, hy4⟩ := Prod.mk.inj hy3
      clear hy3
      obtain ⟨hz5, hy5⟩ := Prod.mk.inj hy4
      clear hy4
      obtain ⟨hz6, hy6⟩ := Prod.mk.inj hy5
      clear hy5
      obtain ⟨hz7, hy7⟩ := Prod.mk.inj hy6
      clear hy6
      obtain ⟨hz8, hy8⟩ := Prod.mk.inj hy7
      clear hy7
      obtain ⟨hz9, hy9⟩ := Prod.mk.inj hy8
      clear hy8
      obtain ⟨hz10, hy10⟩ := Prod.mk.inj hy9
      clear hy9
      subst hz1
      subst hz2
      subst hz3
      subst hz4
      subst hz5
      subst hz6
      subst hz7
      subst hz8
      subst hz9
      subst hz10
      subst hy10
      exact hret _ _ dX7_sent_44
  · refine q_ldc2 C dX7_sent_28 lkX7_sent_4 ?_
    have hy0 := Option.some.inj hf
    clear hf
    obtain ⟨hz1, hy1⟩ := Prod.mk.inj hy0
    clear hy0
    obtain ⟨hz2, hy2⟩ := Prod.mk.inj hy1
    clear hy1
    obtain ⟨hz3, hy3⟩ := Prod.mk.inj hy2
    clear hy2
    obtain ⟨hz4, hy4⟩ := Prod.mk.inj hy3
    clear hy3
    obtain ⟨hz5, hy5⟩ := Prod.mk.inj hy4
    clear hy4
    obtain ⟨hz6, hy6⟩ := Prod.mk.inj hy5
    clear hy5
    obtain ⟨hz7, hy7⟩ := Prod.mk.inj hy6
    clear hy6
    obtain ⟨hz8, hy8⟩ := Prod.mk.inj hy7
    clear hy7
    obtain ⟨hz9, hy9⟩ := Prod.mk.inj hy8
    clear hy8
    obtain ⟨hz10, hy10⟩ := Prod.mk.inj hy9
    clear hy9
    subst hz1
    subst hz2
    subst hz3
    subst hz4
    subst hz5
    subst hz6
    subst hz7
    subst hz8
    subst hz9
    subst hz10
    subst hy10
    exact hret _ _ dX7_sent_31

theorem lkX7_rowsJoined_1 : Cond.fieldLink RX7 51 "TwiceHeard" "rowCounts" "[J" ∈ wsX7_rowsJoined := List.mem_of_getElem? (i := 1) rfl
theorem inX7_rowsJoined_X7 : ∀ w ∈ wsX70, w ∈ wsX7_rowsJoined := fun w h => List.mem_cons_of_mem _ (List.mem_append_right _ h)
abbrev rmX7_rowsJoined : Room := { frames := 0, cells := 0, slots := 0, locals := 0 }
theorem hdX7_rowsJoined : yX7_rowsJoined.cls = RX7 ∧ yX7_rowsJoined.cls ≠ "java/lang/invoke/MethodHandle" ∧ yX7_rowsJoined.cls ≠ "java/lang/invoke/VarHandle" ∧ (parseMethodDescriptor yX7_rowsJoined.desc).map (fun d => d.parameters.length) = some 3 := by decide +kernel
def fX7_rowsJoined_L12 (rc : (Nat → Int64)) (v1 : Int32) (v2 : Int32) (v3 : Int64) : Nat → Int64 → Int64 → Int64 → Int32 → Option (Int64)
  | 0, _, _, _, _ => none
  | n + 1, v5, v7, v9, v11 =>
  if v1 < v11 then (
  some v5) else (
  jn1 (fun (u5_44 : Int64) => 
  (dvL (v7 * ((v1 - v11).toInt64)) ((v11 + (1 : Int32)).toInt64)).bind fun x57 =>
  fX7_rowsJoined_L12 rc v1 v2 v3 n u5_44 x57 (v9 * v3) (v11 + 1)) fun k44 =>
  if v11 < v2 then (
  k44 v5) else (
  (rdL 9 rc (v1 - v11)).bind fun x39 =>
  k44 (v5 + ((v7 * v9) * x39))))
def fX7_rowsJoined (rc : (Nat → Int64)) (v1 : Int32) (v2 : Int32) (v3 : Int64) : Option (Int64) :=
  (fX7_rowsJoined_L12 rc v1 v2 v3 300 (0 : Int64) (1 : Int64) (1 : Int64) (0 : Int32)).bind fun v5_12 =>
  some v5_12
set_option maxRecDepth 100000 in
set_option maxHeartbeats 4000000 in
theorem wX7_rowsJoined_L12 {p : Program} {l : Launch} {e : Env} {s : State} {m : MethodId} {args : Array Value} {below : List Frame} {meth : Method} {c : Code} {Q : State → Prop} {D : va_G} {A : Nat → Prop} {cI cJ cZ cN cM : ClassId} (C : Cx p s m args c cX7_rowsJoined 12 RX7 wsX7_rowsJoined D (TYL cI cJ cZ cN cM) A) (xa : Nat → Nat) (na : Nat → Nat) (pa : Nat → Nat) (ta : Nat → Nat) (ba : Nat → Nat) (da : Nat → Nat) (ia : Nat → Nat) (rc : (Nat → Int64)) (v1 : Int32) (v2 : Int32) (v3 : Int64) (o5 : Int64) (kk : WW p l e rmX7_rowsJoined s m args below meth c Q D A 12 0 0 (xW cI cJ cZ cN cM xa na pa ta ba da ia rc) [(5, .long o5)] 72 []) : ∀ (n : Nat) (v5 : Int64) (v7 : Int64) (v9 : Int64) (v11 : Int32), fX7_rowsJoined_L12 rc v1 v2 v3 n v5 v7 v9 v11 = some o5 → WW p l e rmX7_rowsJoined s m args below meth c Q D A 12 0 0 (xW cI cJ cZ cN cM xa na pa ta ba da ia rc) [(0, .ref (xa 0)), (1, .int v1), (2, .int v2), (3, .long v3), (5, .long v5), (7, .long v7), (9, .long v9), (11, .int v11)] 12 [] := by
  intro n
  induction n with
  | zero =>
    intro v5 v7 v9 v11 hf
    rw [fX7_rowsJoined_L12] at hf
    cases hf
  | succ n ih =>
    intro v5 v7 v9 v11 hf
    rw [fX7_rowsJoined_L12] at hf
    refine q_iload C 7 dX7_rowsJoined_12 rfl ?_
    refine q_iload_n C 1 dX7_rowsJoined_14 rfl ?_
    refine q_icmp_gt C 72 dX7_rowsJoined_15 (by decide) hf (fun hf => ?_) (fun hf => ?_)
    · refine q_lv [(5, .long v5)] [4] rfl ?_
      have hz1 := Option.some.inj hf
      clear hf
      subst hz1
      exact kk
    · refine q_iload C 7 dX7_rowsJoined_18 rfl ?_
      refine q_iload_n C 2 dX7_rowsJoined_20 rfl ?_
      refine jn1_e (fun (u5_44 : Int64) => WW p l e rmX7_rowsJoined s m args below meth c Q D A 12 0 0 (xW cI cJ cZ cN cM xa na pa ta ba da ia rc) [(0, .ref (xa 0)), (1, .int v1), (2, .int v2), (3, .long v3), (5, .long u5_44), (7, .long v7), (9, .long v9), (11, .int v11)] 44 []) hf ?_ ?_
      · intro u5_44 hf
        refine q_lload C 5 dX7_rowsJoined_44 rfl ?_
        refine q_iload_n C 1 dX7_rowsJoined_46 rfl ?_
        refine q_iload C 7 dX7_rowsJoined_47 rfl ?_
        refine q_isub C dX7_rowsJoined_49 ?_
        refine q_i2l C dX7_rowsJoined_50 ?_
        refine q_lmul C dX7_rowsJoined_51 ?_
        refine q_iload C 7 dX7_rowsJoined_52 rfl ?_
        refine q_iconst C 1 dX7_rowsJoined_54 (by decide) ?_
        refine q_iadd C dX7_rowsJoined_55 ?_
        refine q_i2l C dX7_rowsJoined_56 ?_
        refine q_ldiv C dX7_rowsJoined_57 hf (fun x57 hf => ?_)
        refine q_lstore C [(7, .long x57), (0, .ref (xa 0)), (1, .int v1), (2, .int v2), (3, .long v3), (5, .long u5_44), (9, .long v9), (11, .int v11)] dX7_rowsJoined_58 (by decide) rfl ?_
        refine q_lload C 6 dX7_rowsJoined_60 rfl ?_
        refine q_lload_n C 4 dX7_rowsJoined_62 rfl ?_
        refine q_lmul C dX7_rowsJoined_63 ?_
        refine q_lstore C [(9, .long (v9 * v3)), (7, .long x57), (0, .ref (xa 0)), (1, .int v1), (2, .int v2), (3, .long v3), (5, .long u5_44), (11, .int v11)] dX7_rowsJoined_64 (by decide) rfl ?_
        refine q_iinc C (v11 + 1) 7 [(11, .int (v11 + 1)), (9, .long (v9 * v3)), (7, .long x57), (0, .ref (xa 0)), (1, .int v1), (2, .int v2), (3, .long v3), (5, .long u5_44)] dX7_rowsJoined_66 rfl rfl (by decide) rfl ?_
        refine q_goto C 12 dX7_rowsJoined_69 (by decide) ?_
        refine q_lv [(0, .ref (xa 0)), (1, .int v1), (2, .int v2), (3, .long v3), (5, .long u5_44), (7, .long x57), (9, .long (v9 * v3)), (11, .int (v11 + 1))] [3, 4, 5, 6, 7, 2, 1, 0] rfl ?_
        exact ih _ _ _ _ hf
      intro k44 J44 hf
      refine q_icmp_lt C 44 dX7_rowsJoined_21 (by decide) hf (fun hf => ?_) (fun hf => ?_)
      · exact J44 _ hf
      · refine q_lload C 4 dX7_rowsJoined_24 rfl ?_
        refine q_lload C 5 dX7_rowsJoined_26 rfl ?_
        refine q_lload C 6 dX7_rowsJoined_28 rfl ?_
        refine q_lmul C dX7_rowsJoined_30 ?_
        refine q_aload_n C 0 dX7_rowsJoined_31 rfl ?_
        refine q_get C 0 6 dX7_rowsJoined_32 rfl rfl (Nat.le_of_ble_eq_true rfl) inX7_rowsJoined_X7 lkX7_rowsJoined_1 rfl rfl ?_
        refine q_iload_n C 1 dX7_rowsJoined_35 rfl ?_
        refine q_iload C 7 dX7_rowsJoined_36 rfl ?_
        refine q_isub C dX7_rowsJoined_38 ?_
        refine q_lald C 1 1 dX7_rowsJoined_39 rfl rfl hf (fun x39 hf => ?_)
        refine q_lmul C dX7_rowsJoined_40 ?_
        refine q_ladd C dX7_rowsJoined_41 ?_
        refine q_lstore C [(5, .long (v5 + ((v7 * v9) * x39))), (0, .ref (xa 0)), (1, .int v1), (2, .int v2), (3, .long v3), (7, .long v7), (9, .long v9), (11, .int v11)] dX7_rowsJoined_42 (by decide) rfl ?_
        refine q_lv [(0, .ref (xa 0)), (1, .int v1), (2, .int v2), (3, .long v3), (5, .long (v5 + ((v7 * v9) * x39))), (7, .long v7), (9, .long v9), (11, .int v11)] [1, 2, 3, 4, 0, 5, 6, 7] rfl ?_
        exact J44 _ hf
set_option maxRecDepth 100000 in
set_option maxHeartbeats 4000000 in
theorem kX7_rowsJoined (l : Launch) (D : va_G) (cI cJ cZ cN cM : ClassId) (xa : Nat → Nat) (na : Nat → Nat) (pa : Nat → Nat) (ta : Nat → Nat) (ba : Nat → Nat) (da : Nat → Nat) (ia : Nat → Nat) (rc : (Nat → Int64)) (v1 : Int32) (v2 : Int32) (v3 : Int64) (r : Int64) (hf : fX7_rowsJoined rc v1 v2 v3 = some r) : MetL l yX7_rowsJoined wsX7_rowsJoined rmX7_rowsJoined D (TYL cI cJ cZ cN cM) [.ref (xa 0), .int v1, .int v2, .long v3] (xW cI cJ cZ cN cM xa na pa ta ba da ia rc) (xW cI cJ cZ cN cM xa na pa ta ba da ia rc) r := by
  refine MetL.mk (cc := cX7_rowsJoined) (maxL := 12) (own := RX7) [(0, .ref (xa 0)), (1, .int v1), (2, .int v2), (3, .long v3)] (by decide +kernel) rfl rfl (Nat.le_of_ble_eq_true rfl) rfl ?_
  intro p e s m args below meth c A Q C hret
  unfold fX7_rowsJoined at hf
  refine q_lconst C 0 dX7_rowsJoined_0 (by decide) ?_
  refine q_lstore C [(5, .long (0 : Int64)), (0, .ref (xa 0)), (1, .int v1), (2, .int v2), (3, .long v3)] dX7_rowsJoined_1 (by decide) rfl ?_
  refine q_lconst C 1 dX7_rowsJoined_3 (by decide) ?_
  refine q_lstore C [(7, .long (1 : Int64)), (5, .long (0 : Int64)), (0, .ref (xa 0)), (1, .int v1), (2, .int v2), (3, .long v3)] dX7_rowsJoined_4 (by decide) rfl ?_
  refine q_lconst C 1 dX7_rowsJoined_6 (by decide) ?_
  refine q_lstore C [(9, .long (1 : Int64)), (7, .long (1 : Int64)), (5, .long (0 : Int64)), (0, .ref (xa 0)), (1, .int v1), (2, .int v2), (3, .long v3)] dX7_rowsJoined_7 (by decide) rfl ?_
  refine q_iconst C 0 dX7_rowsJoined_9 (by decide) ?_
  refine q_istore C [(11, .int (0 : Int32)), (9, .long (1 : Int64)), (7, .long (1 : Int64)), (5, .long (0 : Int64)), (0, .ref (xa 0)), (1, .int v1), (2, .int v2), (3, .long v3)] dX7_rowsJoined_10 (by decide) rfl ?_
  obtain ⟨v5_12, hL, hf⟩ := bd_e hf
  refine q_lv [(0, .ref (xa 0)), (1, .int v1), (2, .int v2), (3, .long v3), (5, .long (0 : Int64)), (7, .long (1 : Int64)), (9, .long (1 : Int64)), (11, .int (0 : Int32))] [4, 5, 6, 7, 3, 2, 1, 0] rfl ?_
  refine wX7_rowsJoined_L12 C xa na pa ta ba da ia rc v1 v2 v3 v5_12 ?_ 300 _ _ _ _ hL
  refine q_lload C 0 dX7_rowsJoined_72 rfl ?_
  have hz1 := Option.some.inj hf
  clear hf
  subst hz1
  exact hret _ _ dX7_rowsJoined_74
