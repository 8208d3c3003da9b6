theorem lkX8_layLetters_1 : Cond.fieldLink RX8 77 "TwiceHeardModel" "letters" "I" ∈ wsX8_layLetters := List.mem_of_getElem? (i := 1) rfl
theorem lkX8_layLetters_2 : Cond.fieldLink RX8 9 "TwiceHeardModel" "w" "[I" ∈ wsX8_layLetters := List.mem_of_getElem? (i := 2) rfl
theorem lkX8_layLetters_3 : Cond.fieldLink RX8 22 "TwiceHeardModel" "ring" "[I" ∈ wsX8_layLetters := List.mem_of_getElem? (i := 3) rfl
theorem inX8_layLetters_X8 : ∀ w ∈ wsX80, w ∈ wsX8_layLetters := fun w h => List.mem_cons_of_mem _ (List.mem_append_right _ h)
abbrev rmX8_layLetters : Room := { frames := 3, cells := 0, slots := 0, locals := 68 }
theorem hdX8_layLetters : yX8_layLetters.cls = RX8 ∧ yX8_layLetters.cls ≠ "java/lang/invoke/MethodHandle" ∧ yX8_layLetters.cls ≠ "java/lang/invoke/VarHandle" ∧ (parseMethodDescriptor yX8_layLetters.desc).map (fun d => d.parameters.length) = some 0 := by decide +kernel
def fX8_layLetters_L20 (w : (Nat → Int32)) (ri : (Nat → Int32)) (v1 : Int32) : Nat → Int32 → (Nat → Int32) → (Nat → Int32) → Int32 → Option ((Nat → Int32) × (Nat → Int32) × Int32)
  | 0, _, _, _, _ => none
  | n + 1, v2, fm, tt, le =>
  if (w 0) ≤ v2 then (
  some (fm, tt, le)) else (
  (rdI 9 ri v2).bind fun x35 =>
  jn3 (fun (fm_45 : (Nat → Int32)) (tt_45 : (Nat → Int32)) (le_45 : Int32) => 
  fX8_layLetters_L20 w ri v1 n (v2 + 1) fm_45 tt_45 le_45) fun k45 =>
  if x35 = v1 then (
  bd3 (fX8_sendFrom w ri fm tt le v2) fun fm_42 tt_42 le_42 =>
  k45 fm_42 tt_42 le_42) else (
  k45 fm tt le))
def fX8_layLetters_L14 (w : (Nat → Int32)) (ri : (Nat → Int32)) : Nat → Int32 → (Nat → Int32) → (Nat → Int32) → Int32 → Option ((Nat → Int32) × (Nat → Int32) × Int32)
  | 0, _, _, _, _ => none
  | n + 1, v1, fm, tt, le =>
  if v1 ≤ 0 then (
  some (fm, tt, le)) else (
  bd3 (fX8_layLetters_L20 w ri v1 300 (0 : Int32) fm tt le) fun fm_20 tt_20 le_20 =>
  fX8_layLetters_L14 w ri n (v1 + (-1)) fm_20 tt_20 le_20)
def fX8_layLetters (w : (Nat → Int32)) (ri : (Nat → Int32)) (fm : (Nat → Int32)) (tt : (Nat → Int32)) (le : Int32)  : Option ((Nat → Int32) × (Nat → Int32) × (Nat → Int32) × Int32) :=
  (fX8_layRings w ri).bind fun ri_1 =>
  (fX8_greatestRing w ri_1).bind fun x10 =>
  bd3 (fX8_layLetters_L14 w ri_1 300 x10 fm tt (0 : Int32)) fun fm_14 tt_14 le_14 =>
  some (ri_1, fm_14, tt_14, le_14)
set_option maxRecDepth 100000 in
set_option maxHeartbeats 4000000 in
theorem wX8_layLetters_L20 {p : Program} {l : Launch} {e : Env} {s : State} {m : MethodId} {args : Array Value} {below : List Frame} {meth : Method} {c : Code} {Q : State → Prop} {D : va_G} {A : Nat → Prop} {cI cJ cZ cN cM : ClassId} (C : Cx p s m args c cX8_layLetters 3 RX8 wsX8_layLetters D (TYL cI cJ cZ cN cM) A) (a : Nat → Nat) (w : (Nat → Int32)) (kn : Int32) (kp : Int32) (sd : Int32) (ks : (Nat → Int32)) (bo : (Nat → Int32)) (bi : (Nat → Int32)) (bk : Int32) (ri : (Nat → Int32)) (wa : (Nat → Int32)) (hd : (Nat → Int64)) (sx : (Nat → Int32)) (b1 : (Nat → Int64)) (b2 : (Nat → Int64)) (v1 : Int32) (fm_o : (Nat → Int32)) (tt_o : (Nat → Int32)) (le_o : Int32) (kk : WW p l e rmX8_layLetters s m args below meth c Q D A 3 0 0 (mW cI cJ cZ cN cM a w kn kp sd ks bo bi bk ri fm_o tt_o le_o wa hd sx b1 b2) [(0, .ref (a 0)), (1, .int v1)] 51 []) : ∀ (n : Nat) (v2 : Int32) (fm : (Nat → Int32)) (tt : (Nat → Int32)) (le : Int32), fX8_layLetters_L20 w ri v1 n v2 fm tt le = some (fm_o, tt_o, le_o) → WW p l e rmX8_layLetters s m args below meth c Q D A 3 0 0 (mW cI cJ cZ cN cM a w kn kp sd ks bo bi bk ri fm tt le wa hd sx b1 b2) [(0, .ref (a 0)), (1, .int v1), (2, .int v2)] 20 [] := by
  intro n
  induction n with
  | zero =>
    intro v2 fm tt le hf
    rw [fX8_layLetters_L20] at hf
    cases hf
  | succ n ih =>
    intro v2 fm tt le hf
    rw [fX8_layLetters_L20] at hf
    refine q_iload_n C 2 dX8_layLetters_20 rfl ?_
    refine q_aload_n C 0 dX8_layLetters_21 rfl ?_
    refine q_get C 0 0 dX8_layLetters_22 rfl rfl (Nat.le_of_ble_eq_true rfl) inX8_layLetters_X8 lkX8_layLetters_2 rfl rfl ?_
    refine q_iconst C 0 dX8_layLetters_25 (by decide) ?_
    refine q_ialdC C 1 0 dX8_layLetters_26 rfl rfl (by unfold vp_in; decide) (x := (w 0)) rfl ?_
    refine q_icmp_ge C 51 dX8_layLetters_27 (by decide) hf (fun hf => ?_) (fun hf => ?_)
    · refine q_lv [(0, .ref (a 0)), (1, .int v1)] [0, 1] rfl ?_
      have hy0 := Option.some.inj hf
      clear hf
      obtain ⟨hz1, hy1⟩ := Prod.mk.inj hy0
      clear hy0
      obtain ⟨hz2, hy2⟩ := Prod.mk.inj hy1
      clear hy1
      subst hz1
      subst hz2
      subst hy2
      exact kk
    · refine q_aload_n C 0 dX8_layLetters_30 rfl ?_
      refine q_get C 0 8 dX8_layLetters_31 rfl rfl (Nat.le_of_ble_eq_true rfl) inX8_layLetters_X8 lkX8_layLetters_3 rfl rfl ?_
      refine q_iload_n C 2 dX8_layLetters_34 rfl ?_
      refine q_iald C 5 0 dX8_layLetters_35 rfl rfl hf (fun x35 hf => ?_)
      refine q_iload_n C 1 dX8_layLetters_36 rfl ?_
      refine jn3_e (fun (fm_45 : (Nat → Int32)) (tt_45 : (Nat → Int32)) (le_45 : Int32) => WW p l e rmX8_layLetters s m args below meth c Q D A 3 0 0 (mW cI cJ cZ cN cM a w kn kp sd ks bo bi bk ri fm_45 tt_45 le_45 wa hd sx b1 b2) [(0, .ref (a 0)), (1, .int v1), (2, .int v2)] 45 []) hf ?_ ?_
      · intro fm_45 tt_45 le_45 hf
        refine q_iinc C (v2 + 1) 2 [(2, .int (v2 + 1)), (0, .ref (a 0)), (1, .int v1)] dX8_layLetters_45 rfl rfl (by decide) rfl ?_
        refine q_goto C 20 dX8_layLetters_48 (by decide) ?_
        refine q_lv [(0, .ref (a 0)), (1, .int v1), (2, .int (v2 + 1))] [1, 2, 0] rfl ?_
        exact ih _ _ _ _ hf
      intro k45 J45 hf
      refine q_icmp_ne C 45 dX8_layLetters_37 (by decide) hf (fun hf => ?_) (fun hf => ?_)
      · exact J45 _ _ _ hf
      · refine q_aload_n C 0 dX8_layLetters_40 rfl ?_
        refine q_iload_n C 2 dX8_layLetters_41 rfl ?_
        obtain ⟨fm_42, tt_42, le_42, hM, hf⟩ := bd3_e hf
        refine q_callVV C (mW cI cJ cZ cN cM a w kn kp sd ks bo bi bk ri fm_42 tt_42 le_42 wa hd sx b1 b2) (kX8_sendFrom l D cI cJ cZ cN cM a w kn kp sd ks bo bi bk ri fm tt le wa hd sx b1 b2 v2 fm_42 tt_42 le_42 hM) (cwV 1 C.1.2.2.2.2 gX8_layLetters_X8_sendFrom rfl rfl rfl hdX8_sendFrom ⟨Nat.le_of_ble_eq_true rfl, Nat.le_of_ble_eq_true rfl⟩) 0 7 rfl rfl FrX.all rfl rfl (Nat.le_of_ble_eq_true rfl) dX8_layLetters_42 ⟨Nat.zero_le _, Nat.zero_le _⟩ ?_
        exact J45 _ _ _ hf
set_option maxRecDepth 100000 in
set_option maxHeartbeats 4000000 in
theorem wX8_layLetters_L14 {p : Program} {l : Launch} {e : Env} {s : State} {m : MethodId} {args : Array Value} {below : List Frame} {meth : Method} {c : Code} {Q : State → Prop} {D : va_G} {A : Nat → Prop} {cI cJ cZ cN cM : ClassId} (C : Cx p s m args c cX8_layLetters 3 RX8 wsX8_layLetters D (TYL cI cJ cZ cN cM) A) (a : Nat → Nat) (w : (Nat → Int32)) (kn : Int32) (kp : Int32) (sd : Int32) (ks : (Nat → Int32)) (bo : (Nat → Int32)) (bi : (Nat → Int32)) (bk : Int32) (ri : (Nat → Int32)) (wa : (Nat → Int32)) (hd : (Nat → Int64)) (sx : (Nat → Int32)) (b1 : (Nat → Int64)) (b2 : (Nat → Int64))  (fm_o : (Nat → Int32)) (tt_o : (Nat → Int32)) (le_o : Int32) (kk : WW p l e rmX8_layLetters s m args below meth c Q D A 3 0 0 (mW cI cJ cZ cN cM a w kn kp sd ks bo bi bk ri fm_o tt_o le_o wa hd sx b1 b2) [] 57 []) : ∀ (n : Nat) (v1 : Int32) (fm : (Nat → Int32)) (tt : (Nat → Int32)) (le : Int32), fX8_layLetters_L14 w ri n v1 fm tt le = some (fm_o, tt_o, le_o) → WW p l e rmX8_layLetters s m args below meth c Q D A 3 0 0 (mW cI cJ cZ cN cM a w kn kp sd ks bo bi bk ri fm tt le wa hd sx b1 b2) [(0, .ref (a 0)), (1, .int v1)] 14 [] := by
  intro n
  induction n with
  | zero =>
    intro v1 fm tt le hf
    rw [fX8_layLetters_L14] at hf
    cases hf
  | succ n ih =>
    intro v1 fm tt le hf
    rw [fX8_layLetters_L14] at hf
    refine q_iload_n C 1 dX8_layLetters_14 rfl ?_
    refine q_if_le C 57 dX8_layLetters_15 (by decide) hf (fun hf => ?_) (fun hf => ?_)
    · refine q_lv [] [] rfl ?_
      have hy0 := Option.some.inj hf
      clear hf
      obtain ⟨hz1, hy1⟩ := Prod.mk.inj hy0
      clear hy0
      obtain ⟨hz2, hy2⟩ := Prod.mk.inj hy1
      clear hy1
      subst hz1
      subst hz2
      subst hy2
      exact kk
    · refine q_iconst C 0 dX8_layLetters_18 (by decide) ?_
      refine q_istore_n C [(2, .int (0 : Int32)), (0, .ref (a 0)), (1, .int v1)] dX8_layLetters_19 (by decide) rfl ?_
      obtain ⟨fm_20, tt_20, le_20, hL, hf⟩ := bd3_e hf
      refine q_lv [(0, .ref (a 0)), (1, .int v1), (2, .int (0 : Int32))] [1, 2, 0] rfl ?_
      refine wX8_layLetters_L20 C a w kn kp sd ks bo bi bk ri wa hd sx b1 b2 v1 fm_20 tt_20 le_20 ?_ 300 _ _ _ _ hL
      refine q_iinc C (v1 + (-1)) 1 [(1, .int (v1 + (-1))), (0, .ref (a 0))] dX8_layLetters_51 rfl rfl (by decide) rfl ?_
      refine q_goto C 14 dX8_layLetters_54 (by decide) ?_
      refine q_lv [(0, .ref (a 0)), (1, .int (v1 + (-1)))] [1, 0] rfl ?_
      exact ih _ _ _ _ hf
set_option maxRecDepth 100000 in
set_option maxHeartbeats 4000000 in
theorem kX8_layLetters (l : Launch) (D : va_G) (cI cJ cZ cN cM : ClassId) (a : Nat → Nat) (w : (Nat → Int32)) (kn : Int32) (kp : Int32) (sd : Int32) (ks : (Nat → Int32)) (bo : (Nat → Int32)) (bi : (Nat → Int32)) (bk : Int32) (ri : (Nat → Int32)) (fm : (Nat → Int32)) (tt : (Nat → Int32)) (le : Int32) (wa : (Nat → Int32)) (hd : (Nat → Int64)) (sx : (Nat → Int32)) (b1 : (Nat → Int64)) (b2 : (Nat → Int64))  (ri_o : (Nat → Int32)) (fm_o : (Nat → Int32)) (tt_o : (Nat → Int32)) (le_o : Int32) (hf : fX8_layLetters w ri fm tt le = some (ri_o, fm_o, tt_o, le_o)) : MetV l yX8_layLetters wsX8_layLetters rmX8_layLetters D (TYL cI cJ cZ cN cM) [.ref (a 0)] (mW cI cJ cZ cN cM a w kn kp sd ks bo bi bk ri fm tt le wa hd sx b1 b2) (mW cI cJ cZ cN cM a w kn kp sd ks bo bi bk ri_o fm_o tt_o le_o wa hd sx b1 b2) := by
  refine MetV.mk (cc := cX8_layLetters) (maxL := 3) (own := RX8) [(0, .ref (a 0))] (by decide +kernel) rfl rfl (Nat.le_of_ble_eq_true rfl) rfl ?_
  intro p e s m args below meth c A Q C hret
  unfold fX8_layLetters at hf
  refine q_aload_n C 0 dX8_layLetters_0 rfl ?_
  obtain ⟨ri_1, hM, hf⟩ := bd_e hf
  refine q_callVV C (mW cI cJ cZ cN cM a w kn kp sd ks bo bi bk ri_1 fm tt le wa hd sx b1 b2) (kX8_layRings l D cI cJ cZ cN cM a w kn kp sd ks bo bi bk ri fm tt le wa hd sx b1 b2  ri_1 hM) (cwV 0 C.1.2.2.2.2 gX8_layLetters_X8_layRings rfl rfl rfl hdX8_layRings ⟨Nat.le_of_ble_eq_true rfl, Nat.le_of_ble_eq_true rfl⟩) 0 7 rfl rfl FrX.all rfl rfl (Nat.le_of_ble_eq_true rfl) dX8_layLetters_1 ⟨Nat.zero_le _, Nat.zero_le _⟩ ?_
  refine q_aload_n C 0 dX8_layLetters_4 rfl ?_
  refine q_iconst C 0 dX8_layLetters_5 (by decide) ?_
  refine q_put C 0 11 (mW cI cJ cZ cN cM a w kn kp sd ks bo bi bk ri_1 fm tt (0 : Int32) wa hd sx b1 b2) dX8_layLetters_6 rfl rfl (Nat.le_of_ble_eq_true rfl) inX8_layLetters_X8 tyX8 tyX8_ok nmX8 lkX8_layLetters_1 rfl rfl rfl rfl (Nat.le_of_ble_eq_true rfl) rfl ?_
  refine q_aload_n C 0 dX8_layLetters_9 rfl ?_
  obtain ⟨x10, hM, hf⟩ := bd_e hf
  refine q_callVI C (mW cI cJ cZ cN cM a w kn kp sd ks bo bi bk ri_1 fm tt (0 : Int32) wa hd sx b1 b2) (kX8_greatestRing l D cI cJ cZ cN cM a w kn kp sd ks bo bi bk ri_1 fm tt (0 : Int32) wa hd sx b1 b2  x10 hM) (cwV 0 C.1.2.2.2.2 gX8_layLetters_X8_greatestRing rfl rfl rfl hdX8_greatestRing ⟨Nat.le_of_ble_eq_true rfl, Nat.le_of_ble_eq_true rfl⟩) 0 7 rfl rfl FrX.all rfl rfl (Nat.le_of_ble_eq_true rfl) dX8_layLetters_10 ⟨Nat.zero_le _, Nat.zero_le _⟩ ?_
  refine q_istore_n C [(1, .int x10), (0, .ref (a 0))] dX8_layLetters_13 (by decide) rfl ?_
  obtain ⟨fm_14, tt_14, le_14, hL, hf⟩ := bd3_e hf
  refine q_lv [(0, .ref (a 0)), (1, .int x10)] [1, 0] rfl ?_
  refine wX8_layLetters_L14 C a w kn kp sd ks bo bi bk ri_1 wa hd sx b1 b2  fm_14 tt_14 le_14 ?_ 300 _ _ _ _ hL
  have hy0 := Option.some.inj hf
  clear hf
  obtain ⟨hz1, hy1⟩ := Prod.mk.inj hy0
  clear hy0
  obtain ⟨hz2, hy2⟩ := Prod.mk.inj hy1
  clear hy1
  obtain ⟨hz3, hy3⟩ := Prod.mk.inj hy2
  clear hy2
  subst hz1
  subst hz2
  subst hz3
  subst hy3
  exact hret _ _ dX8_layLetters_57

theorem lkX8_comes_1 : Cond.fieldLink RX8 9 "TwiceHeardModel" "w" "[I" ∈ wsX8_comes := List.mem_of_getElem? (i := 1) rfl
theorem lkX8_comes_2 : Cond.fieldLink RX8 25 "TwiceHeardModel" "from" "[I" ∈ wsX8_comes := List.mem_of_getElem? (i := 2) rfl
theorem lkX8_comes_3 : Cond.fieldLink RX8 28 "TwiceHeardModel" "to" "[I" ∈ wsX8_comes := List.mem_of_getElem? (i := 3) rfl
theorem inX8_comes_X8 : ∀ w ∈ wsX80, w ∈ wsX8_comes := fun w h => List.mem_cons_of_mem _ (List.mem_append_right _ h)
abbrev rmX8_comes : Room := { frames := 1, cells := 0, slots := 0, locals := 21 }
theorem hdX8_comes : yX8_comes.cls = RX8 ∧ yX8_comes.cls ≠ "java/lang/invoke/MethodHandle" ∧ yX8_comes.cls ≠ "java/lang/invoke/VarHandle" ∧ (parseMethodDescriptor yX8_comes.desc).map (fun d => d.parameters.length) = some 1 := by decide +kernel
def fX8_comes (w : (Nat → Int32)) (fm : (Nat → Int32)) (tt : (Nat → Int32)) (v1 : Int32) : Option (Int32) :=
  (rdI 40 fm v1).bind fun x11 =>
  (rdI 570 w ((12 : Int32) + x11)).bind fun x13 =>
  (rdI 40 tt v1).bind fun x19 =>
  (fX8_has x13 x19).bind fun x20 =>
  if x20 = 0 then (
  some (1 : Int32)) else (
  some (0 : Int32))
set_option maxRecDepth 100000 in
set_option maxHeartbeats 4000000 in
theorem kX8_comes (l : Launch) (D : va_G) (cI cJ cZ cN cM : ClassId) (a : Nat → Nat) (w : (Nat → Int32)) (kn : Int32) (kp : Int32) (sd : Int32) (ks : (Nat → Int32)) (bo : (Nat → Int32)) (bi : (Nat → Int32)) (bk : Int32) (ri : (Nat → Int32)) (fm : (Nat → Int32)) (tt : (Nat → Int32)) (le : Int32) (wa : (Nat → Int32)) (hd : (Nat → Int64)) (sx : (Nat → Int32)) (b1 : (Nat → Int64)) (b2 : (Nat → Int64)) (v1 : Int32) (r : Int32) (hf : fX8_comes w fm tt v1 = some r) : MetI l yX8_comes wsX8_comes rmX8_comes D (TYL cI cJ cZ cN cM) [.ref (a 0), .int v1] (mW cI cJ cZ cN cM a w kn kp sd ks bo bi bk ri fm tt le wa hd sx b1 b2) (mW cI cJ cZ cN cM a w kn kp sd ks bo bi bk ri fm tt le wa hd sx b1 b2) r := by
  refine MetI.mk (cc := cX8_comes) (maxL := 2) (own := RX8) (ty := .boolean) [(0, .ref (a 0)), (1, .int v1)] (by decide +kernel) rfl rfl (Nat.le_of_ble_eq_true rfl) rfl ?_
  intro p e s m args below meth c A Q C hret
  unfold fX8_comes at hf
  refine q_aload_n C 0 dX8_comes_0 rfl ?_
  refine q_get C 0 0 dX8_comes_1 rfl rfl (Nat.le_of_ble_eq_true rfl) inX8_comes_X8 lkX8_comes_1 rfl rfl ?_
  refine q_bipush C 12 dX8_comes_4 (by decide) ?_
  refine q_aload_n C 0 dX8_comes_6 rfl ?_
  refine q_get C 0 9 dX8_comes_7 rfl rfl (Nat.le_of_ble_eq_true rfl) inX8_comes_X8 lkX8_comes_2 rfl rfl ?_
  refine q_iload_n C 1 dX8_comes_10 rfl ?_
  refine q_iald C 6 0 dX8_comes_11 rfl rfl hf (fun x11 hf => ?_)
  refine q_iadd C dX8_comes_12 ?_
  refine q_iald C 1 0 dX8_comes_13 rfl rfl hf (fun x13 hf => ?_)
  refine q_aload_n C 0 dX8_comes_14 rfl ?_
  refine q_get C 0 10 dX8_comes_15 rfl rfl (Nat.le_of_ble_eq_true rfl) inX8_comes_X8 lkX8_comes_3 rfl rfl ?_
  refine q_iload_n C 1 dX8_comes_18 rfl ?_
  refine q_iald C 7 0 dX8_comes_19 rfl rfl hf (fun x19 hf => ?_)
  obtain ⟨x20, hM, hf⟩ := bd_e hf
  refine q_callSI C (mW cI cJ cZ cN cM a w kn kp sd ks bo bi bk ri fm tt le wa hd sx b1 b2) (kX8_has l D cI cJ cZ cN cM   x13 x19 x20 hM) (va_cwS 2 C.1.2.2.2.2 gX8_comes_X8_has rfl rfl rfl hdX8_has ⟨Nat.le_of_ble_eq_true rfl, Nat.le_of_ble_eq_true rfl⟩) FrX.none rfl rfl (Nat.le_of_ble_eq_true rfl) dX8_comes_20 ⟨Nat.zero_le _, Nat.zero_le _⟩ ?_
  refine q_if_ne C 30 dX8_comes_23 (by decide) hf (fun hf => ?_) (fun hf => ?_)
  · refine q_iconst C 0 dX8_comes_30 (by decide) ?_
    have hz1 := Option.some.inj hf
    clear hf
    subst hz1
    exact hret _ _ dX8_comes_31 (by decide)
  · refine q_iconst C 1 dX8_comes_26 (by decide) ?_
    refine q_goto C 31 dX8_comes_27 (by decide) ?_
    have hz1 := Option.some.inj hf
    clear hf
    subst hz1
    exact hret _ _ dX8_comes_31 (by decide)

theorem lkX8_lostLetters_1 : Cond.fieldLink RX8 77 "TwiceHeardModel" "letters" "I" ∈ wsX8_lostLetters := List.mem_of_getElem? (i := 1) rfl
theorem inX8_lostLetters_X8 : ∀ w ∈ wsX80, w ∈ wsX8_lostLetters := fun w h => List.mem_cons_of_mem _ (List.mem_append_right _ h)
abbrev rmX8_lostLetters : Room := { frames := 4, cells := 0, slots := 0, locals := 90 }
theorem hdX8_lostLetters : yX8_lostLetters.cls = RX8 ∧ yX8_lostLetters.cls ≠ "java/lang/invoke/MethodHandle" ∧ yX8_lostLetters.cls ≠ "java/lang/invoke/VarHandle" ∧ (parseMethodDescriptor yX8_lostLetters.desc).map (fun d => d.parameters.length) = some 0 := by decide +kernel
def fX8_lostLetters_L8 (w : (Nat → Int32)) (fm : (Nat → Int32)) (tt : (Nat → Int32)) (le : Int32) : Nat → Int32 → Int32 → Option (Int32)
  | 0, _, _ => none
  | n + 1, v1, v2 =>
  if le ≤ v2 then (
  some v1) else (
  (fX8_comes w fm tt v2).bind fun x19 =>
  jn1 (fun (t0_30 : Int32) => 
  fX8_lostLetters_L8 w fm tt le n (v1 + t0_30) (v2 + 1)) fun k30 =>
  if x19 = 0 then (
  k30 (1 : Int32)) else (
  k30 (0 : Int32)))
def fX8_lostLetters (w : (Nat → Int32)) (ri : (Nat → Int32)) (fm : (Nat → Int32)) (tt : (Nat → Int32)) (le : Int32)  : Option (Int32 × (Nat → Int32) × (Nat → Int32) × (Nat → Int32) × Int32) :=
  bd4 (fX8_layLetters w ri fm tt le) fun ri_1 fm_1 tt_1 le_1 =>
  (fX8_lostLetters_L8 w fm_1 tt_1 le_1 300 (0 : Int32) (0 : Int32)).bind fun v1_8 =>
  some (v1_8, ri_1, fm_1, tt_1, le_1)
set_option maxRecDepth 100000 in
set_option maxHeartbeats 4000000 in
theorem wX8_lostLetters_L8 {p : Program} {l : Launch} {e : Env} {s : State} {m : MethodId} {args : Array Value} {below : List Frame} {meth : Method} {c : Code} {Q : State → Prop} {D : va_G} {A : Nat → Prop} {cI cJ cZ cN cM : ClassId} (C : Cx p s m args c cX8_lostLetters 3 RX8 wsX8_lostLetters D (TYL cI cJ cZ cN cM) A) (a : Nat → Nat) (w : (Nat → Int32)) (kn : Int32) (kp : Int32) (sd : Int32) (ks : (Nat → Int32)) (bo : (Nat → Int32)) (bi : (Nat → Int32)) (bk : Int32) (ri : (Nat → Int32)) (fm : (Nat → Int32)) (tt : (Nat → Int32)) (le : Int32) (wa : (Nat → Int32)) (hd : (Nat → Int64)) (sx : (Nat → Int32)) (b1 : (Nat → Int64)) (b2 : (Nat → Int64))  (o1 : Int32) (kk : WW p l e rmX8_lostLetters s m args below meth c Q D A 3 0 0 (mW cI cJ cZ cN cM a w kn kp sd ks bo bi bk ri fm tt le wa hd sx b1 b2) [(1, .int o1)] 38 []) : ∀ (n : Nat) (v1 : Int32) (v2 : Int32), fX8_lostLetters_L8 w fm tt le n v1 v2 = some o1 → WW p l e rmX8_lostLetters s m args below meth c Q D A 3 0 0 (mW cI cJ cZ cN cM a w kn kp sd ks bo bi bk ri fm tt le wa hd sx b1 b2) [(0, .ref (a 0)), (1, .int v1), (2, .int v2)] 8 [] := by
  intro n
  induction n with
  | zero =>
    intro v1 v2 hf
    rw [fX8_lostLetters_L8] at hf
    cases hf
  | succ n ih =>
    intro v1 v2 hf
    rw [fX8_lostLetters_L8] at hf
    refine q_iload_n C 2 dX8_lostLetters_8 rfl ?_
    refine q_aload_n C 0 dX8_lostLetters_9 rfl ?_
    refine q_get C 0 11 dX8_lostLetters_10 rfl rfl (Nat.le_of_ble_eq_true rfl) inX8_lostLetters_X8 lkX8_lostLetters_1 rfl rfl ?_
    refine q_icmp_ge C 38 dX8_lostLetters_13 (by decide) hf (fun hf => ?_) (fun hf => ?_)
    · refine q_lv [(1, .int v1)] [1] rfl ?_
      have hz1 := Option.some.inj hf
      clear hf
      subst hz1
      exact kk
    · refine q_iload_n C 1 dX8_lostLetters_16 rfl ?_
      refine q_aload_n C 0 dX8_lostLetters_17 rfl ?_
      refine q_iload_n C 2 dX8_lostLetters_18 rfl ?_
      obtain ⟨x19, hM, hf⟩ := bd_e hf
      refine q_callVI C (mW cI cJ cZ cN cM a w kn kp sd ks bo bi bk ri fm tt le wa hd sx b1 b2) (kX8_comes l D cI cJ cZ cN cM a w kn kp sd ks bo bi bk ri fm tt le wa hd sx b1 b2 v2 x19 hM) (cwV 1 C.1.2.2.2.2 gX8_lostLetters_X8_comes rfl rfl rfl hdX8_comes ⟨Nat.le_of_ble_eq_true rfl, Nat.le_of_ble_eq_true rfl⟩) 0 7 rfl rfl FrX.all rfl rfl (Nat.le_of_ble_eq_true rfl) dX8_lostLetters_19 ⟨Nat.zero_le _, Nat.zero_le _⟩ ?_
      refine jn1_e (fun (t0_30 : Int32) => WW p l e rmX8_lostLetters s m args below meth c Q D A 3 0 0 (mW cI cJ cZ cN cM a w kn kp sd ks bo bi bk ri fm tt le wa hd sx b1 b2) [(0, .ref (a 0)), (2, .int v2)] 30 [.int t0_30, .int v1]) hf ?_ ?_
      · intro t0_30 hf
        refine q_iadd C dX8_lostLetters_30 ?_
        refine q_istore_n C [(1, .int (v1 + t0_30)), (0, .ref (a 0)), (2, .int v2)] dX8_lostLetters_31 (by decide) rfl ?_
        refine q_iinc C (v2 + 1) 2 [(2, .int (v2 + 1)), (1, .int (v1 + t0_30)), (0, .ref (a 0))] dX8_lostLetters_32 rfl rfl (by decide) rfl ?_
        refine q_goto C 8 dX8_lostLetters_35 (by decide) ?_
        refine q_lv [(0, .ref (a 0)), (1, .int (v1 + t0_30)), (2, .int (v2 + 1))] [2, 1, 0] rfl ?_
        exact ih _ _ hf
      intro k30 J30 hf
      refine q_if_eq C 29 dX8_lostLetters_22 (by decide) hf (fun hf => ?_) (fun hf => ?_)
      · refine q_iconst C 1 dX8_lostLetters_29 (by decide) ?_
        refine q_lv [(0, .ref (a 0)), (2, .int v2)] [0, 2] rfl ?_
        exact J30 _ hf
      · refine q_iconst C 0 dX8_lostLetters_25 (by decide) ?_
        refine q_goto C 30 dX8_lostLetters_26 (by decide) ?_
        refine q_lv [(0, .ref (a 0)), (2, .int v2)] [0, 2] rfl ?_
        exact J30 _ hf
set_option maxRecDepth 100000 in
set_option maxHeartbeats 4000000 in
theorem kX8_lostLetters (l : Launch) (D : va_G) (cI cJ cZ cN cM : ClassId) (a : Nat → Nat) (w : (Nat → Int32)) (kn : Int32) (kp : Int32) (sd : Int32) (ks : (Nat → Int32)) (bo : (Nat → Int32)) (bi : (Nat → Int32)) (bk : Int32) (ri : (Nat → Int32)) (fm : (Nat → Int32)) (tt : (Nat → Int32)) (le : Int32) (wa : (Nat → Int32)) (hd : (Nat → Int64)) (sx : (Nat → Int32)) (b1 : (Nat → Int64)) (b2 : (Nat → Int64))  (r : Int32) (ri_o : (Nat → Int32)) (fm_o : (Nat → Int32)) (tt_o : (Nat → Int32)) (le_o : Int32) (hf : fX8_lostLetters w ri fm tt le = some (r, ri_o, fm_o, tt_o, le_o)) : MetI l yX8_lostLetters wsX8_lostLetters rmX8_lostLetters D (TYL cI cJ cZ cN cM) [.ref (a 0)] (mW cI cJ cZ cN cM a w kn kp sd ks bo bi bk ri fm tt le wa hd sx b1 b2) (mW cI cJ cZ cN cM a w kn kp sd ks bo bi bk ri_o fm_o tt_o le_o wa hd sx b1 b2) r := by
  refine MetI.mk (cc := cX8_lostLetters) (maxL := 3) (own := RX8) (ty := .int) [(0, .ref (a 0))] (by decide +kernel) rfl rfl (Nat.le_of_ble_eq_true rfl) rfl ?_
  intro p e s m args below meth c A Q C hret
  unfold fX8_lostLetters at hf
  refine q_aload_n C 0 dX8_lostLetters_0 rfl ?_
  obtain ⟨ri_1, fm_1, tt_1, le_1, hM, hf⟩ := bd4_e hf
  refine q_callVV C (mW cI cJ cZ cN cM a w kn kp sd ks bo bi bk ri_1 fm_1 tt_1 le_1 wa hd sx b1 b2) (kX8_layLetters l D cI cJ cZ cN cM a w kn kp sd ks bo bi bk ri fm tt le wa hd sx b1 b2  ri_1 fm_1 tt_1 le_1 hM) (cwV 0 C.1.2.2.2.2 gX8_lostLetters_X8_layLetters rfl rfl rfl hdX8_layLetters ⟨Nat.le_of_ble_eq_true rfl, Nat.le_of_ble_eq_true rfl⟩) 0 7 rfl rfl FrX.all rfl rfl (Nat.le_of_ble_eq_true rfl) dX8_lostLetters_1 ⟨Nat.zero_le _, Nat.zero_le _⟩ ?_
  refine q_iconst C 0 dX8_lostLetters_4 (by decide) ?_
  refine q_istore_n C [(1, .int (0 : Int32)), (0, .ref (a 0))] dX8_lostLetters_5 (by decide) rfl ?_
  refine q_iconst C 0 dX8_lostLetters_6 (by decide) ?_
  refine q_istore_n C [(2, .int (0 : Int32)), (1, .int (0 : Int32)), (0, .ref (a 0))] dX8_lostLetters_7 (by decide) rfl ?_
  obtain ⟨v1_8, hL, hf⟩ := bd_e hf
  refine q_lv [(0, .ref (a 0)), (1, .int (0 : Int32)), (2, .int (0 : Int32))] [2, 1, 0] rfl ?_
  refine wX8_lostLetters_L8 C a w kn kp sd ks bo bi bk ri_1 fm_1 tt_1 le_1 wa hd sx b1 b2  v1_8 ?_ 300 _ _ hL
  refine q_iload_n C 0 dX8_lostLetters_38 rfl ?_
  have hy0 := Option.some.inj hf
  clear hf
  obtain ⟨hz1, hy1⟩ := Prod.mk.inj hy0
  clear hy0
  obtain ⟨hz2, hy2⟩ := Prod.mk.inj hy1
  clear hy1
  obtain ⟨hz3, hy3⟩ := Prod.mk.inj hy2
  clear hy2
  obtain ⟨hz4, hy4⟩ := Prod.mk.inj hy3
  clear hy3
  subst hz1
  subst hz2
  subst hz3
  subst hz4
  subst hy4
  exact hret _ _ dX8_lostLetters_39 rfl

theorem lkX8_lettersTo_1 : Cond.fieldLink RX8 77 "TwiceHeardModel" "letters" "I" ∈ wsX8_lettersTo := List.mem_of_getElem? (i := 1) rfl
theorem lkX8_lettersTo_2 : Cond.fieldLink RX8 28 "TwiceHeardModel" "to" "[I" ∈ wsX8_lettersTo := List.mem_of_getElem? (i := 2) rfl
theorem inX8_lettersTo_X8 : ∀ w ∈ wsX80, w ∈ wsX8_lettersTo := fun w h => List.mem_cons_of_mem _ (List.mem_append_right _ h)
abbrev rmX8_lettersTo : Room := { frames := 4, cells := 0, slots := 0, locals := 90 }
theorem hdX8_lettersTo : yX8_lettersTo.cls = RX8 ∧ yX8_lettersTo.cls ≠ "java/lang/invoke/MethodHandle" ∧ yX8_lettersTo.cls ≠ "java/lang/invoke/VarHandle" ∧ (parseMethodDescriptor yX8_lettersTo.desc).map (fun d => d.parameters.length) = some 1 := by decide +kernel
def fX8_lettersTo_L8 (w : (Nat → Int32)) (fm : (Nat → Int32)) (tt : (Nat → Int32)) (le : Int32) (v1 : Int32) : Nat → Int32 → Int32 → Option (Int32)
  | 0, _, _ => none
  | n + 1, v2, v3 =>
  if le ≤ v3 then (
  some v2) else (
  (rdI 40 tt v3).bind fun x22 =>
  jn1 (fun (t0_40 : Int32) => 
  fX8_lettersTo_L8 w fm tt le v1 n (v2 + t0_40) (v3 + 1)) fun k40 =>
  jn0 (
  k40 (0 : Int32)) fun k39 =>
  if x22 = v1 then (
  (fX8_comes w fm tt v3).bind fun x29 =>
  if x29 = 0 then (
  k39) else (
  k40 (1 : Int32))) else (
  k39))
def fX8_lettersTo (w : (Nat → Int32)) (ri : (Nat → Int32)) (fm : (Nat → Int32)) (tt : (Nat → Int32)) (le : Int32) (v1 : Int32) : Option (Int32 × (Nat → Int32) × (Nat → Int32) × (Nat → Int32) × Int32) :=
  bd4 (fX8_layLetters w ri fm tt le) fun ri_1 fm_1 tt_1 le_1 =>
  (fX8_lettersTo_L8 w fm_1 tt_1 le_1 v1 300 (0 : Int32) (0 : Int32)).bind fun v2_8 =>
  some (v2_8, ri_1, fm_1, tt_1, le_1)
set_option maxRecDepth 100000 in
set_option maxHeartbeats 4000000 in
theorem wX8_lettersTo_L8 {p : Program} {l : Launch} {e : Env} {s : State} {m : MethodId} {args : Array Value} {below : List Frame} {meth : Method} {c : Code} {Q : State → Prop} {D : va_G} {A : Nat → Prop} {cI cJ cZ cN cM : ClassId} (C : Cx p s m args c cX8_lettersTo 4 RX8 wsX8_lettersTo D (TYL cI cJ cZ cN cM) A) (a : Nat → Nat) (w : (Nat → Int32)) (kn : Int32) (kp : Int32) (sd : Int32) (ks : (Nat → Int32)) (bo : (Nat → Int32)) (bi : (Nat → Int32)) (bk : Int32) (ri : (Nat → Int32)) (fm : (Nat → Int32)) (tt : (Nat → Int32)) (le : Int32) (wa : (Nat → Int32)) (hd : (Nat → Int64)) (sx : (Nat → Int32)) (b1 : (Nat → Int64)) (b2 : (Nat → Int64)) (v1 : Int32) (o2 : Int32) (kk : WW p l e rmX8_lettersTo s m args below meth c Q D A 4 0 0 (mW cI cJ cZ cN cM a w kn kp sd ks bo bi bk ri fm tt le wa hd sx b1 b2) [(2, .int o2)] 48 []) : ∀ (n : Nat) (v2 : Int32) (v3 : Int32), fX8_lettersTo_L8 w fm tt le v1 n v2 v3 = some o2 → WW p l e rmX8_lettersTo s m args below meth c Q D A 4 0 0 (mW cI cJ cZ cN cM a w kn kp sd ks bo bi bk ri fm tt le wa hd sx b1 b2) [(0, .ref (a 0)), (1, .int v1), (2, .int v2), (3, .int v3)] 8 [] := by
  intro n
  induction n with
  | zero =>
    intro v2 v3 hf
    rw [fX8_lettersTo_L8] at hf
    cases hf
  | succ n ih =>
    intro v2 v3 hf
    rw [fX8_lettersTo_L8] at hf
    refine q_iload_n C 3 dX8_lettersTo_8 rfl ?_
    refine q_aload_n C 0 dX8_lettersTo_9 rfl ?_
    refine q_get C 0 11 dX8_lettersTo_10 rfl rfl (Nat.le_of_ble_eq_true rfl) inX8_lettersTo_X8 lkX8_lettersTo_1 rfl rfl ?_
    refine q_icmp_ge C 48 dX8_lettersTo_13 (by decide) hf (fun hf => ?_) (fun hf => ?_)
    · refine q_lv [(2, .int v2)] [2] rfl ?_
      have hz1 := Option.some.inj hf
      clear hf
      subst hz1
      exact kk
    · refine q_iload_n C 2 dX8_lettersTo_16 rfl ?_
      refine q_aload_n C 0 dX8_lettersTo_17 rfl ?_
      refine q_get C 0 10 dX8_lettersTo_18 rfl rfl (Nat.le_of_ble_eq_true rfl) inX8_lettersTo_X8 lkX8_lettersTo_2 rfl rfl ?_
      refine q_iload_n C 3 dX8_lettersTo_21 rfl ?_
      refine q_iald C 7 0 dX8_lettersTo_22 rfl rfl hf (fun x22 hf => ?_)
      refine q_iload_n C 1 dX8_lettersTo_23 rfl ?_
      refine jn1_e (fun (t0_40 : Int32) => WW p l e rmX8_lettersTo s m args below meth c Q D A 4 0 0 (mW cI cJ cZ cN cM a w kn kp sd ks bo bi bk ri fm tt le wa hd sx b1 b2) [(0, .ref (a 0)), (1, .int v1), (3, .int v3)] 40 [.int t0_40, .int v2]) hf ?_ ?_
      · intro t0_40 hf
        refine q_iadd C dX8_lettersTo_40 ?_
        refine q_istore_n C [(2, .int (v2 + t0_40)), (0, .ref (a 0)), (1, .int v1), (3, .int v3)] dX8_lettersTo_41 (by decide) rfl ?_
        refine q_iinc C (v3 + 1) 3 [(3, .int (v3 + 1)), (2, .int (v2 + t0_40)), (0, .ref (a 0)), (1, .int v1)] dX8_lettersTo_42 rfl rfl (by decide) rfl ?_
        refine q_goto C 8 dX8_lettersTo_45 (by decide) ?_
        refine q_lv [(0, .ref (a 0)), (1, .int v1), (2, .int (v2 + t0_40)), (3, .int (v3 + 1))] [2, 3, 1, 0] rfl ?_
        exact ih _ _ hf
      intro k40 J40 hf
      refine jn0_e (WW p l e rmX8_lettersTo s m args below meth c Q D A 4 0 0 (mW cI cJ cZ cN cM a w kn kp sd ks bo bi bk ri fm tt le wa hd sx b1 b2) [(0, .ref (a 0)), (1, .int v1), (3, .int v3)] 39 [.int v2]) hf ?_ ?_
      · intro hf
        refine q_iconst C 0 dX8_lettersTo_39 (by decide) ?_
        exact J40 _ hf
      intro k39 J39 hf
      refine q_icmp_ne C 39 dX8_lettersTo_24 (by decide) hf (fun hf => ?_) (fun hf => ?_)
      · refine q_lv [(0, .ref (a 0)), (1, .int v1), (3, .int v3)] [0, 1, 3] rfl ?_
        exact J39  hf
      · refine q_aload_n C 0 dX8_lettersTo_27 rfl ?_
        refine q_iload_n C 3 dX8_lettersTo_28 rfl ?_
        obtain ⟨x29, hM, hf⟩ := bd_e hf
        refine q_callVI C (mW cI cJ cZ cN cM a w kn kp sd ks bo bi bk ri fm tt le wa hd sx b1 b2) (kX8_comes l D cI cJ cZ cN cM a w kn kp sd ks bo bi bk ri fm tt le wa hd sx b1 b2 v3 x29 hM) (cwV 1 C.1.2.2.2.2 gX8_lettersTo_X8_comes rfl rfl rfl hdX8_comes ⟨Nat.le_of_ble_eq_true rfl, Nat.le_of_ble_eq_true rfl⟩) 0 7 rfl rfl FrX.all rfl rfl (Nat.le_of_ble_eq_true rfl) dX8_lettersTo_29 ⟨Nat.zero_le _, Nat.zero_le _⟩ ?_
        refine q_if_eq C 39 dX8_lettersTo_32 (by decide) hf (fun hf => ?_) (fun hf => ?_)
        · refine q_lv [(0, .ref (a 0)), (1, .int v1), (3, .int v3)] [0, 1, 3] rfl ?_
          exact J39  hf
        · refine q_iconst C 1 dX8_lettersTo_35 (by decide) ?_
          refine q_goto C 40 dX8_lettersTo_36 (by decide) ?_
          refine q_lv [(0, .ref (a 0)), (1, .int v1), (3, .int v3)] [0, 1, 3] rfl ?_
          exact J40 _ hf
set_option maxRecDepth 100000 in
set_option maxHeartbeats 4000000 in
theorem kX8_lettersTo (l : Launch) (D : va_G) (cI cJ cZ cN cM : ClassId) (a : Nat → Nat) (w : (Nat → Int32)) (kn : Int32) (kp : Int32) (sd : Int32) (ks : (Nat → Int32)) (bo : (Nat → Int32)) (bi : (Nat → Int32)) (bk : Int32) (ri : (Nat → Int32)) (fm : (Nat → Int32)) (tt : (Nat → Int32)) (le : Int32) (wa : (Nat → Int32)) (hd : (Nat → Int64)) (sx : (Nat → Int32)) (b1 : (Nat → Int64)) (b2 : (Nat → Int64)) (v1 : Int32) (r : Int32) (ri_o : (Nat → Int32)) (fm_o : (Nat → Int32)) (tt_o : (Nat → Int32)) (le_o : Int32) (hf : fX8_lettersTo w ri fm tt le v1 = some (r, ri_o, fm_o, tt_o, le_o)) : MetI l yX8_lettersTo wsX8_lettersTo rmX8_lettersTo D (TYL cI cJ cZ cN cM) [.ref (a 0), .int v1] (mW cI cJ cZ cN cM a w kn kp sd ks bo bi bk ri fm tt le wa hd sx b1 b2) (mW cI cJ cZ cN cM a w kn kp sd ks bo bi bk ri_o fm_o tt_o le_o wa hd sx b1 b2) r := by
  refine MetI.mk (cc := cX8_lettersTo) (maxL := 4) (own := RX8) (ty := .int) [(0, .ref (a 0)), (1, .int v1)] (by decide +kernel) rfl rfl (Nat.le_of_ble_eq_true rfl) rfl ?_
  intro p e s m args below meth c A Q C hret
  unfold fX8_lettersTo at hf
  refine q_aload_n C 0 dX8_lettersTo_0 rfl ?_
  obtain ⟨ri_1, fm_1, tt_1, le_1, hM, hf⟩ := bd4_e hf
  refine q_callVV C (mW cI cJ cZ cN cM a w kn kp sd ks bo bi bk ri_1 fm_1 tt_1 le_1 wa hd sx b1 b2) (kX8_layLetters l D cI cJ cZ cN cM a w kn kp sd ks bo bi bk ri fm tt le wa hd sx b1 b2  ri_1 fm_1 tt_1 le_1 hM) (cwV 0 C.1.2.2.2.2 gX8_lettersTo_X8_layLetters rfl rfl rfl hdX8_layLetters ⟨Nat.le_of_ble_eq_true rfl, Nat.le_of_ble_eq_true rfl⟩) 0 7 rfl rfl FrX.all rfl rfl (Nat.le_of_ble_eq_true rfl) dX8_lettersTo_1 ⟨Nat.zero_le _, Nat.zero_le _⟩ ?_
  refine q_iconst C 0 dX8_lettersTo_4 (by decide) ?_
  refine q_istore_n C [(2, .int (0 : Int32)), (0, .ref (a 0)), (1, .int v1)] dX8_lettersTo_5 (by decide) rfl ?_
  refine q_iconst C 0 dX8_lettersTo_6 (by decide) ?_
  refine q_istore_n C [(3, .int (0 : Int32)), (2, .int (0 : Int32)), (0, .ref (a 0)), (1, .int v1)] dX8_lettersTo_7 (by decide) rfl ?_
  obtain ⟨v2_8, hL, hf⟩ := bd_e hf
  refine q_lv [(0, .ref (a 0)), (1, .int v1), (2, .int (0 : Int32)), (3, .int (0 : Int32))] [2, 3, 1, 0] rfl ?_
  refine wX8_lettersTo_L8 C a w kn kp sd ks bo bi bk ri_1 fm_1 tt_1 le_1 wa hd sx b1 b2 v1 v2_8 ?_ 300 _ _ hL
  refine q_iload_n C 0 dX8_lettersTo_48 rfl ?_
  have hy0 := Option.some.inj hf
  clear hf
  obtain ⟨hz1, hy1⟩ := Prod.mk.inj hy0
  clear hy0
  obtain ⟨hz2, hy2⟩ := Prod.mk.inj hy1
  clear hy1
  obtain ⟨hz3, hy3⟩ := Prod.mk.inj hy2
  clear hy2
  obtain ⟨hz4, hy4⟩ := Prod.mk.inj hy3
  clear hy3
  subst hz1
  subst hz2
  subst hz3
  subst hz4
  subst hy4
  exact hret _ _ dX8_lettersTo_49 rfl

theorem lkX8_layWays_1 : Cond.fieldLink RX8 31 "TwiceHeardModel" "ways" "[I" ∈ wsX8_layWays := List.mem_of_getElem? (i := 1) rfl
theorem lkX8_layWays_2 : Cond.fieldLink RX8 77 "TwiceHeardModel" "letters" "I" ∈ wsX8_layWays := List.mem_of_getElem? (i := 2) rfl
theorem lkX8_layWays_3 : Cond.fieldLink RX8 25 "TwiceHeardModel" "from" "[I" ∈ wsX8_layWays := List.mem_of_getElem? (i := 3) rfl
theorem lkX8_layWays_4 : Cond.fieldLink RX8 28 "TwiceHeardModel" "to" "[I" ∈ wsX8_layWays := List.mem_of_getElem? (i := 4) rfl
theorem inX8_layWays_X8 : ∀ w ∈ wsX80, w ∈ wsX8_layWays := fun w h => List.mem_cons_of_mem _ (List.mem_append_right _ h)
abbrev rmX8_layWays : Room := { frames := 4, cells := 0, slots := 0, locals := 90 }
theorem hdX8_layWays : yX8_layWays.cls = RX8 ∧ yX8_layWays.cls ≠ "java/lang/invoke/MethodHandle" ∧ yX8_layWays.cls ≠ "java/lang/invoke/VarHandle" ∧ (parseMethodDescriptor yX8_layWays.desc).map (fun d => d.parameters.length) = some 0 := by decide +kernel
def fX8_layWays_L6  : Nat → Int32 → (Nat → Int32) → Option ((Nat → Int32))
  | 0, _, _ => none
  | n + 1, v1, wa =>
  if (9 : Int32) ≤ v1 then (
  some wa) else (
  jn1 (fun (t0_26 : Int32) => 
  (wrI 9 wa v1 t0_26).bind fun wa_26 =>
  fX8_layWays_L6 n (v1 + 1) wa_26) fun k26 =>
  if v1 = 0 then (
  k26 (1 : Int32)) else (
  k26 (0 : Int32)))
def fX8_layWays_L40 (w : (Nat → Int32)) (fm : (Nat → Int32)) (tt : (Nat → Int32)) : Nat → Int32 → (Nat → Int32) → Option ((Nat → Int32))
  | 0, _, _ => none
  | n + 1, v1, wa =>
  if v1 < 0 then (
  some wa) else (
  (rdI 40 fm v1).bind fun x53 =>
  (rdI 9 wa x53).bind fun x55 =>
  (fX8_comes w fm tt v1).bind fun x58 =>
  jn1 (fun (t0_79 : Int32) => 
  (wrI 9 wa x53 (x55 + t0_79)).bind fun wa_80 =>
  fX8_layWays_L40 w fm tt n (v1 + (-1)) wa_80) fun k79 =>
  if x58 = 0 then (
  k79 (0 : Int32)) else (
  (rdI 40 tt v1).bind fun x73 =>
  (rdI 9 wa x73).bind fun x74 =>
  k79 x74))
def fX8_layWays (w : (Nat → Int32)) (ri : (Nat → Int32)) (fm : (Nat → Int32)) (tt : (Nat → Int32)) (le : Int32) (wa : (Nat → Int32))  : Option ((Nat → Int32) × (Nat → Int32) × (Nat → Int32) × Int32 × (Nat → Int32)) :=
  bd4 (fX8_layLetters w ri fm tt le) fun ri_1 fm_1 tt_1 le_1 =>
  (fX8_layWays_L6  300 (0 : Int32) wa).bind fun wa_6 =>
  (fX8_layWays_L40 w fm_1 tt_1 300 (le_1 - (1 : Int32)) wa_6).bind fun wa_40 =>
  some (ri_1, fm_1, tt_1, le_1, wa_40)
set_option maxRecDepth 100000 in
set_option maxHeartbeats 4000000 in
theorem wX8_layWays_L6 {p : Program} {l : Launch} {e : Env} {s : State} {m : MethodId} {args : Array Value} {below : List Frame} {meth : Method} {c : Code} {Q : State → Prop} {D : va_G} {A : Nat → Prop} {cI cJ cZ cN cM : ClassId} (C : Cx p s m args c cX8_layWays 2 RX8 wsX8_layWays D (TYL cI cJ cZ cN cM) A) (a : Nat → Nat) (w : (Nat → Int32)) (kn : Int32) (kp : Int32) (sd : Int32) (ks : (Nat → Int32)) (bo : (Nat → Int32)) (bi : (Nat → Int32)) (bk : Int32) (ri : (Nat → Int32)) (fm : (Nat → Int32)) (tt : (Nat → Int32)) (le : Int32) (hd : (Nat → Int64)) (sx : (Nat → Int32)) (b1 : (Nat → Int64)) (b2 : (Nat → Int64))  (wa_o : (Nat → Int32)) (kk : WW p l e rmX8_layWays s m args below meth c Q D A 2 0 0 (mW cI cJ cZ cN cM a w kn kp sd ks bo bi bk ri fm tt le wa_o hd sx b1 b2) [(0, .ref (a 0))] 33 []) : ∀ (n : Nat) (v1 : Int32) (wa : (Nat → Int32)), fX8_layWays_L6  n v1 wa = some wa_o → WW p l e rmX8_layWays s m args below meth c Q D A 2 0 0 (mW cI cJ cZ cN cM a w kn kp sd ks bo bi bk ri fm tt le wa hd sx b1 b2) [(0, .ref (a 0)), (1, .int v1)] 6 [] := by
  intro n
  induction n with
  | zero =>
    intro v1 wa hf
    rw [fX8_layWays_L6] at hf
    cases hf
  | succ n ih =>
    intro v1 wa hf
    rw [fX8_layWays_L6] at hf
    refine q_iload_n C 1 dX8_layWays_6 rfl ?_
    refine q_bipush C 9 dX8_layWays_7 (by decide) ?_
    refine q_icmp_ge C 33 dX8_layWays_9 (by decide) hf (fun hf => ?_) (fun hf => ?_)
    · refine q_lv [(0, .ref (a 0))] [0] rfl ?_
      have hz1 := Option.some.inj hf
      clear hf
      subst hz1
      exact kk
    · refine q_aload_n C 0 dX8_layWays_12 rfl ?_
      refine q_get C 0 12 dX8_layWays_13 rfl rfl (Nat.le_of_ble_eq_true rfl) inX8_layWays_X8 lkX8_layWays_1 rfl rfl ?_
      refine q_iload_n C 1 dX8_layWays_16 rfl ?_
      refine q_iload_n C 1 dX8_layWays_17 rfl ?_
      refine jn1_e (fun (t0_26 : Int32) => WW p l e rmX8_layWays s m args below meth c Q D A 2 0 0 (mW cI cJ cZ cN cM a w kn kp sd ks bo bi bk ri fm tt le wa hd sx b1 b2) [(0, .ref (a 0)), (1, .int v1)] 26 [.int t0_26, .int v1, .ref (a 8)]) hf ?_ ?_
      · intro t0_26 hf
        refine q_iast C 8 0 (fun wa_26 => mW cI cJ cZ cN cM a w kn kp sd ks bo bi bk ri fm tt le wa_26 hd sx b1 b2) dX8_layWays_26 rfl rfl (fun _ => rfl) hf (fun wa_26 hf => ?_)
        refine q_iinc C (v1 + 1) 1 [(1, .int (v1 + 1)), (0, .ref (a 0))] dX8_layWays_27 rfl rfl (by decide) rfl ?_
        refine q_goto C 6 dX8_layWays_30 (by decide) ?_
        refine q_lv [(0, .ref (a 0)), (1, .int (v1 + 1))] [1, 0] rfl ?_
        exact ih _ _ hf
      intro k26 J26 hf
      refine q_if_ne C 25 dX8_layWays_18 (by decide) hf (fun hf => ?_) (fun hf => ?_)
      · refine q_iconst C 0 dX8_layWays_25 (by decide) ?_
        exact J26 _ hf
      · refine q_iconst C 1 dX8_layWays_21 (by decide) ?_
        refine q_goto C 26 dX8_layWays_22 (by decide) ?_
        exact J26 _ hf
set_option maxRecDepth 100000 in
set_option maxHeartbeats 4000000 in
theorem wX8_layWays_L40 {p : Program} {l : Launch} {e : Env} {s : State} {m : MethodId} {args : Array Value} {below : List Frame} {meth : Method} {c : Code} {Q : State → Prop} {D : va_G} {A : Nat → Prop} {cI cJ cZ cN cM : ClassId} (C : Cx p s m args c cX8_layWays 2 RX8 wsX8_layWays D (TYL cI cJ cZ cN cM) A) (a : Nat → Nat) (w : (Nat → Int32)) (kn : Int32) (kp : Int32) (sd : Int32) (ks : (Nat → Int32)) (bo : (Nat → Int32)) (bi : (Nat → Int32)) (bk : Int32) (ri : (Nat → Int32)) (fm : (Nat → Int32)) (tt : (Nat → Int32)) (le : Int32) (hd : (Nat → Int64)) (sx : (Nat → Int32)) (b1 : (Nat → Int64)) (b2 : (Nat → Int64))  (wa_o : (Nat → Int32)) (kk : WW p l e rmX8_layWays s m args below meth c Q D A 2 0 0 (mW cI cJ cZ cN cM a w kn kp sd ks bo bi bk ri fm tt le wa_o hd sx b1 b2) [] 87 []) : ∀ (n : Nat) (v1 : Int32) (wa : (Nat → Int32)), fX8_layWays_L40 w fm tt n v1 wa = some wa_o → WW p l e rmX8_layWays s m args below meth c Q D A 2 0 0 (mW cI cJ cZ cN cM a w kn kp sd ks bo bi bk ri fm tt le wa hd sx b1 b2) [(0, .ref (a 0)), (1, .int v1)] 40 [] := by
  intro n
  induction n with
  | zero =>
    intro v1 wa hf
    rw [fX8_layWays_L40] at hf
    cases hf
  | succ n ih =>
    intro v1 wa hf
    rw [fX8_layWays_L40] at hf
    refine q_iload_n C 1 dX8_layWays_40 rfl ?_
    refine q_if_lt C 87 dX8_layWays_41 (by decide) hf (fun hf => ?_) (fun hf => ?_)
    · refine q_lv [] [] rfl ?_
      have hz1 := Option.some.inj hf
      clear hf
      subst hz1
      exact kk
    · refine q_aload_n C 0 dX8_layWays_44 rfl ?_
      refine q_get C 0 12 dX8_layWays_45 rfl rfl (Nat.le_of_ble_eq_true rfl) inX8_layWays_X8 lkX8_layWays_1 rfl rfl ?_
      refine q_aload_n C 0 dX8_layWays_48 rfl ?_
      refine q_get C 0 9 dX8_layWays_49 rfl rfl (Nat.le_of_ble_eq_true rfl) inX8_layWays_X8 lkX8_layWays_3 rfl rfl ?_
      refine q_iload_n C 1 dX8_layWays_52 rfl ?_
      refine q_iald C 6 0 dX8_layWays_53 rfl rfl hf (fun x53 hf => ?_)
      refine q_dup2 C dX8_layWays_54 rfl rfl ?_
      refine q_iald C 8 0 dX8_layWays_55 rfl rfl hf (fun x55 hf => ?_)
      refine q_aload_n C 0 dX8_layWays_56 rfl ?_
      refine q_iload_n C 1 dX8_layWays_57 rfl ?_
      obtain ⟨x58, hM, hf⟩ := bd_e hf
      refine q_callVI C (mW cI cJ cZ cN cM a w kn kp sd ks bo bi bk ri fm tt le wa hd sx b1 b2) (kX8_comes l D cI cJ cZ cN cM a w kn kp sd ks bo bi bk ri fm tt le wa hd sx b1 b2 v1 x58 hM) (cwV 1 C.1.2.2.2.2 gX8_layWays_X8_comes rfl rfl rfl hdX8_comes ⟨Nat.le_of_ble_eq_true rfl, Nat.le_of_ble_eq_true rfl⟩) 0 7 rfl rfl FrX.all rfl rfl (Nat.le_of_ble_eq_true rfl) dX8_layWays_58 ⟨Nat.zero_le _, Nat.zero_le _⟩ ?_
      refine jn1_e (fun (t0_79 : Int32) => WW p l e rmX8_layWays s m args below meth c Q D A 2 0 0 (mW cI cJ cZ cN cM a w kn kp sd ks bo bi bk ri fm tt le wa hd sx b1 b2) [(0, .ref (a 0)), (1, .int v1)] 79 [.int t0_79, .int x55, .int x53, .ref (a 8)]) hf ?_ ?_
      · intro t0_79 hf
        refine q_iadd C dX8_layWays_79 ?_
        refine q_iast C 8 0 (fun wa_80 => mW cI cJ cZ cN cM a w kn kp sd ks bo bi bk ri fm tt le wa_80 hd sx b1 b2) dX8_layWays_80 rfl rfl (fun _ => rfl) hf (fun wa_80 hf => ?_)
        refine q_iinc C (v1 + (-1)) 1 [(1, .int (v1 + (-1))), (0, .ref (a 0))] dX8_layWays_81 rfl rfl (by decide) rfl ?_
        refine q_goto C 40 dX8_layWays_84 (by decide) ?_
        refine q_lv [(0, .ref (a 0)), (1, .int (v1 + (-1)))] [1, 0] rfl ?_
        exact ih _ _ hf
      intro k79 J79 hf
      refine q_if_eq C 78 dX8_layWays_61 (by decide) hf (fun hf => ?_) (fun hf => ?_)
      · refine q_iconst C 0 dX8_layWays_78 (by decide) ?_
        exact J79 _ hf
      · refine q_aload_n C 0 dX8_layWays_64 rfl ?_
        refine q_get C 0 12 dX8_layWays_65 rfl rfl (Nat.le_of_ble_eq_true rfl) inX8_layWays_X8 lkX8_layWays_1 rfl rfl ?_
        refine q_aload_n C 0 dX8_layWays_68 rfl ?_
        refine q_get C 0 10 dX8_layWays_69 rfl rfl (Nat.le_of_ble_eq_true rfl) inX8_layWays_X8 lkX8_layWays_4 rfl rfl ?_
        refine q_iload_n C 1 dX8_layWays_72 rfl ?_
        refine q_iald C 7 0 dX8_layWays_73 rfl rfl hf (fun x73 hf => ?_)
        refine q_iald C 8 0 dX8_layWays_74 rfl rfl hf (fun x74 hf => ?_)
        refine q_goto C 79 dX8_layWays_75 (by decide) ?_
        exact J79 _ hf
set_option maxRecDepth 100000 in
set_option maxHeartbeats 4000000 in
theorem kX8_layWays (l : Launch) (D : va_G) (cI cJ cZ cN cM : ClassId) (a : Nat → Nat) (w : (Nat → Int32)) (kn : Int32) (kp : Int32) (sd : Int32) (ks : (Nat → Int32)) (bo : (Nat → Int32)) (bi : (Nat → Int32)) (bk : Int32) (ri : (Nat → Int32)) (fm : (Nat → Int32)) (tt : (Nat → Int32)) (le : Int32) (wa : (Nat → Int32)) (hd : (Nat → Int64)) (sx : (Nat → Int32)) (b1 : (Nat → Int64)) (b2 : (Nat → Int64))  (ri_o : (Nat → Int32)) (fm_o : (Nat → Int32)) (tt_o : (Nat → Int32)) (le_o : Int32) (wa_o : (Nat → Int32)) (hf : fX8_layWays w ri fm tt le wa = some (ri_o, fm_o, tt_o, le_o, wa_o)) : MetV l yX8_layWays wsX8_layWays rmX8_layWays D (TYL cI cJ cZ cN cM) [.ref (a 0)] (mW cI cJ cZ cN cM a w kn kp sd ks bo bi bk ri fm tt le wa hd sx b1 b2) (mW cI cJ cZ cN cM a w kn kp sd ks bo bi bk ri_o fm_o tt_o le_o wa_o hd sx b1 b2) := by
  refine MetV.mk (cc := cX8_layWays) (maxL := 2) (own := RX8) [(0, .ref (a 0))] (by decide +kernel) rfl rfl (Nat.le_of_ble_eq_true rfl) rfl ?_
  intro p e s m args below meth c A Q C hret
  unfold fX8_layWays at hf
  refine q_aload_n C 0 dX8_layWays_0 rfl ?_
  obtain ⟨ri_1, fm_1, tt_1, le_1, hM, hf⟩ := bd4_e hf
  refine q_callVV C (mW cI cJ cZ cN cM a w kn kp sd ks bo bi bk ri_1 fm_1 tt_1 le_1 wa hd sx b1 b2) (kX8_layLetters l D cI cJ cZ cN cM a w kn kp sd ks bo bi bk ri fm tt le wa hd sx b1 b2  ri_1 fm_1 tt_1 le_1 hM) (cwV 0 C.1.2.2.2.2 gX8_layWays_X8_layLetters rfl rfl rfl hdX8_layLetters ⟨Nat.le_of_ble_eq_true rfl, Nat.le_of_ble_eq_true rfl⟩) 0 7 rfl rfl FrX.all rfl rfl (Nat.le_of_ble_eq_true rfl) dX8_layWays_1 ⟨Nat.zero_le _, Nat.zero_le _⟩ ?_
  refine q_iconst C 0 dX8_layWays_4 (by decide) ?_
  refine q_istore_n C [(1, .int (0 : Int32)), (0, .ref (a 0))] dX8_layWays_5 (by decide) rfl ?_
  obtain ⟨wa_6, hL, hf⟩ := bd_e hf
  refine q_lv [(0, .ref (a 0)), (1, .int (0 : Int32))] [1, 0] rfl ?_
  refine wX8_layWays_L6 C a w kn kp sd ks bo bi bk ri_1 fm_1 tt_1 le_1 hd sx b1 b2  wa_6 ?_ 300 _ _ hL
  refine q_aload_n C 0 dX8_layWays_33 rfl ?_
  refine q_get C 0 11 dX8_layWays_34 rfl rfl (Nat.le_of_ble_eq_true rfl) inX8_layWays_X8 lkX8_layWays_2 rfl rfl ?_
  refine q_iconst C 1 dX8_layWays_37 (by decide) ?_
  refine q_isub C dX8_layWays_38 ?_
  refine q_istore_n C [(1, .int (le_1 - (1 : Int32))), (0, .ref (a 0))] dX8_layWays_39 (by decide) rfl ?_
  obtain ⟨wa_40, hL, hf⟩ := bd_e hf
  refine q_lv [(0, .ref (a 0)), (1, .int (le_1 - (1 : Int32)))] [1, 0] rfl ?_
  refine wX8_layWays_L40 C a w kn kp sd ks bo bi bk ri_1 fm_1 tt_1 le_1 hd sx b1 b2  wa_40 ?_ 300 _ _ hL
  have hy0 := Option.some.inj hf
  clear hf
  obtain ⟨hz1, hy1⟩ := Prod.mk.inj hy0
  clear hy0
  obtain ⟨hz2, hy2⟩ := Prod.mk.inj hy1
  clear hy1
  obtain ⟨hz3, hy3⟩ := Prod.mk.inj hy2
  clear hy2
  obtain ⟨hz4, hy4⟩ := Prod.mk.inj hy3
  clear hy3
  subst hz1
  subst hz2
  subst hz3
  subst hz4
  subst hy4
  exact hret _ _ dX8_layWays_87

theorem lkX8_comesSet_1 : Cond.fieldLink RX8 9 "TwiceHeardModel" "w" "[I" ∈ wsX8_comesSet := List.mem_of_getElem? (i := 1) rfl
theorem lkX8_comesSet_2 : Cond.fieldLink RX8 31 "TwiceHeardModel" "ways" "[I" ∈ wsX8_comesSet := List.mem_of_getElem? (i := 2) rfl
theorem inX8_comesSet_X8 : ∀ w ∈ wsX80, w ∈ wsX8_comesSet := fun w h => List.mem_cons_of_mem _ (List.mem_append_right _ h)
abbrev rmX8_comesSet : Room := { frames := 5, cells := 0, slots := 0, locals := 111 }
theorem hdX8_comesSet : yX8_comesSet.cls = RX8 ∧ yX8_comesSet.cls ≠ "java/lang/invoke/MethodHandle" ∧ yX8_comesSet.cls ≠ "java/lang/invoke/VarHandle" ∧ (parseMethodDescriptor yX8_comesSet.desc).map (fun d => d.parameters.length) = some 0 := by decide +kernel
def fX8_comesSet_L8 (w : (Nat → Int32)) (wa : (Nat → Int32)) : Nat → Int32 → Int32 → Option (Int32)
  | 0, _, _ => none
  | n + 1, v1, v2 =>
  if (w 0) ≤ v2 then (
  some v1) else (
  (rdI 9 wa v2).bind fun x24 =>
  jn1 (fun (t0_35 : Int32) => 
  fX8_comesSet_L8 w wa n (v1 ||| t0_35) (v2 + 1)) fun k35 =>
  if x24 ≤ 0 then (
  k35 (0 : Int32)) else (
  k35 ((1 : Int32) <<< (v2 &&& 31))))
def fX8_comesSet (w : (Nat → Int32)) (ri : (Nat → Int32)) (fm : (Nat → Int32)) (tt : (Nat → Int32)) (le : Int32) (wa : (Nat → Int32))  : Option (Int32 × (Nat → Int32) × (Nat → Int32) × (Nat → Int32) × Int32 × (Nat → Int32)) :=
  bd5 (fX8_layWays w ri fm tt le wa) fun ri_1 fm_1 tt_1 le_1 wa_1 =>
  (fX8_comesSet_L8 w wa_1 300 (0 : Int32) (0 : Int32)).bind fun v1_8 =>
  some (v1_8, ri_1, fm_1, tt_1, le_1, wa_1)
set_option maxRecDepth 100000 in
set_option maxHeartbeats 4000000 in
theorem wX8_comesSet_L8 {p : Program} {l : Launch} {e : Env} {s : State} {m : MethodId} {args : Array Value} {below : List Frame} {meth : Method} {c : Code} {Q : State → Prop} {D : va_G} {A : Nat → Prop} {cI cJ cZ cN cM : ClassId} (C : Cx p s m args c cX8_comesSet 3 RX8 wsX8_comesSet D (TYL cI cJ cZ cN cM) A) (a : Nat → Nat) (w : (Nat → Int32)) (kn : Int32) (kp : Int32) (sd : Int32) (ks : (Nat → Int32)) (bo : (Nat → Int32)) (bi : (Nat → Int32)) (bk : Int32) (ri : (Nat → Int32)) (fm : (Nat → Int32)) (tt : (Nat → Int32)) (le : Int32) (wa : (Nat → Int32)) (hd : (Nat → Int64)) (sx : (Nat → Int32)) (b1 : (Nat → Int64)) (b2 : (Nat → Int64))  (o1 : Int32) (kk : WW p l e rmX8_comesSet s m args below meth c Q D A 3 0 0 (mW cI cJ cZ cN cM a w kn kp sd ks bo bi bk ri fm tt le wa hd sx b1 b2) [(1, .int o1)] 43 []) : ∀ (n : Nat) (v1 : Int32) (v2 : Int32), fX8_comesSet_L8 w wa n v1 v2 = some o1 → WW p l e rmX8_comesSet s m args below meth c Q D A 3 0 0 (mW cI cJ cZ cN cM a w kn kp sd ks bo bi bk ri fm tt le wa hd sx b1 b2) [(0, .ref (a 0)), (1, .int v1), (2, .int v2)] 8 [] := by
  intro n
  induction n with
  | zero =>
    intro v1 v2 hf
    rw [fX8_comesSet_L8] at hf
    cases hf
  | succ n ih =>
    intro v1 v2 hf
    rw [fX8_comesSet_L8] at hf
    refine q_iload_n C 2 dX8_comesSet_8 rfl ?_
    refine q_aload_n C 0 dX8_comesSet_9 rfl ?_
    refine q_get C 0 0 dX8_comesSet_10 rfl rfl (Nat.le_of_ble_eq_true rfl) inX8_comesSet_X8 lkX8_comesSet_1 rfl rfl ?_
    refine q_iconst C 0 dX8_comesSet_13 (by decide) ?_
    refine q_ialdC C 1 0 dX8_comesSet_14 rfl rfl (by unfold vp_in; decide) (x := (w 0)) rfl ?_
    refine q_icmp_ge C 43 dX8_comesSet_15 (by decide) hf (fun hf => ?_) (fun hf => ?_)
    · refine q_lv [(1, .int v1)] [1] rfl ?_
      have hz1 := Option.some.inj hf
      clear hf
      subst hz1
      exact kk
    · refine q_iload_n C 1 dX8_comesSet_18 rfl ?_
      refine q_aload_n C 0 dX8_comesSet_19 rfl ?_
      refine q_get C 0 12 dX8_comesSet_20 rfl rfl (Nat.le_of_ble_eq_true rfl) inX8_comesSet_X8 lkX8_comesSet_2 rfl rfl ?_
      refine q_iload_n C 2 dX8_comesSet_23 rfl ?_
      refine q_iald C 8 0 dX8_comesSet_24 rfl rfl hf (fun x24 hf => ?_)
      refine jn1_e (fun (t0_35 : Int32) => WW p l e rmX8_comesSet s m args below meth c Q D A 3 0 0 (mW cI cJ cZ cN cM a w kn kp sd ks bo bi bk ri fm tt le wa hd sx b1 b2) [(0, .ref (a 0)), (2, .int v2)] 35 [.int t0_35, .int v1]) hf ?_ ?_
      · intro t0_35 hf
        refine q_ior C dX8_comesSet_35 ?_
        refine q_istore_n C [(1, .int (v1 ||| t0_35)), (0, .ref (a 0)), (2, .int v2)] dX8_comesSet_36 (by decide) rfl ?_
        refine q_iinc C (v2 + 1) 2 [(2, .int (v2 + 1)), (1, .int (v1 ||| t0_35)), (0, .ref (a 0))] dX8_comesSet_37 rfl rfl (by decide) rfl ?_
        refine q_goto C 8 dX8_comesSet_40 (by decide) ?_
        refine q_lv [(0, .ref (a 0)), (1, .int (v1 ||| t0_35)), (2, .int (v2 + 1))] [2, 1, 0] rfl ?_
        exact ih _ _ hf
      intro k35 J35 hf
      refine q_if_le C 34 dX8_comesSet_25 (by decide) hf (fun hf => ?_) (fun hf => ?_)
      · refine q_iconst C 0 dX8_comesSet_34 (by decide) ?_
        refine q_lv [(0, .ref (a 0)), (2, .int v2)] [0, 2] rfl ?_
        exact J35 _ hf
      · refine q_iconst C 1 dX8_comesSet_28 (by decide) ?_
        refine q_iload_n C 2 dX8_comesSet_29 rfl ?_
        refine q_ishl C dX8_comesSet_30 ?_
        refine q_goto C 35 dX8_comesSet_31 (by decide) ?_
        refine q_lv [(0, .ref (a 0)), (2, .int v2)] [0, 2] rfl ?_
        exact J35 _ hf
set_option maxRecDepth 100000 in
set_option maxHeartbeats 4000000 in
theorem kX8_comesSet (l : Launch) (D : va_G) (cI cJ cZ cN cM : ClassId) (a : Nat → Nat) (w : (Nat → Int32)) (kn : Int32) (kp : Int32) (sd : Int32) (ks : (Nat → Int32)) (bo : (Nat → Int32)) (bi : (Nat → Int32)) (bk : Int32) (ri : (Nat → Int32)) (fm : (Nat → Int32)) (tt : (Nat → Int32)) (le : Int32) (wa : (Nat → Int32)) (hd : (Nat → Int64)) (sx : (Nat → Int32)) (b1 : (Nat → Int64)) (b2 : (Nat → Int64))  (r : Int32) (ri_o : (Nat → Int32)) (fm_o : (Nat → Int32)) (tt_o : (Nat → Int32)) (le_o : Int32) (wa_o : (Nat → Int32)) (hf : fX8_comesSet w ri fm tt le wa = some (r, ri_o, fm_o, tt_o, le_o, wa_o)) : MetI l yX8_comesSet wsX8_comesSet rmX8_comesSet D (TYL cI cJ cZ cN cM) [.ref (a 0)] (mW cI cJ cZ cN cM a w kn kp sd ks bo bi bk ri fm tt le wa hd sx b1 b2) (mW cI cJ cZ cN cM a w kn kp sd ks bo bi bk ri_o fm_o tt_o le_o wa_o hd sx b1 b2) r := by
  refine MetI.mk (cc := cX8_comesSet) (maxL := 3) (own := RX8) (ty := .int) [(0, .ref (a 0))] (by decide +kernel) rfl rfl (Nat.le_of_ble_eq_true rfl) rfl ?_
  intro p e s m args below meth c A Q C hret
  unfold fX8_comesSet at hf
  refine q_aload_n C 0 dX8_comesSet_0 rfl ?_
  obtain ⟨ri_1, fm_1, tt_1, le_1, wa_1, hM, hf⟩ := bd5_e hf
  refine q_callVV C (mW cI cJ cZ cN cM a w kn kp sd ks bo bi bk ri_1 fm_1 tt_1 le_1 wa_1 hd sx b1 b2) (kX8_layWays l D cI cJ cZ cN cM a w kn kp sd ks bo bi bk ri fm tt le wa hd sx b1 b2  ri_1 fm_1 tt_1 le_1 wa_1 hM) (cwV 0 C.1.2.2.2.2 gX8_comesSet_X8_layWays rfl rfl rfl hdX8_layWays ⟨Nat.le_of_ble_eq_true rfl, Nat.le_of_ble_eq_true rfl⟩) 0 7 rfl rfl FrX.all rfl rfl (Nat.le_of_ble_eq_true rfl) dX8_comesSet_1 ⟨Nat.zero_le _, Nat.zero_le _⟩ ?_
  refine q_iconst C 0 dX8_comesSet_4 (by decide) ?_
  refine q_istore_n C [(1, .int (0 : Int32)), (0, .ref (a 0))] dX8_comesSet_5 (by decide) rfl ?_
  refine q_iconst C 0 dX8_comesSet_6 (by decide) ?_
  refine q_istore_n C [(2, .int (0 : Int32)), (1, .int (0 : Int32)), (0, .ref (a 0))] dX8_comesSet_7 (by decide) rfl ?_
  obtain ⟨v1_8, hL, hf⟩ := bd_e hf
  refine q_lv [(0, .ref (a 0)), (1, .int (0 : Int32)), (2, .int (0 : Int32))] [2, 1, 0] rfl ?_
  refine wX8_comesSet_L8 C a w kn kp sd ks bo bi bk ri_1 fm_1 tt_1 le_1 wa_1 hd sx b1 b2  v1_8 ?_ 300 _ _ hL
  refine q_iload_n C 0 dX8_comesSet_43 rfl ?_
  have hy0 := Option.some.inj hf
  clear hf
  obtain ⟨hz1, hy1⟩ := Prod.mk.inj hy0
  clear hy0
  obtain ⟨hz2, hy2⟩ := Prod.mk.inj hy1
  clear hy1
  obtain ⟨hz3, hy3⟩ := Prod.mk.inj hy2
  clear hy2
  obtain ⟨hz4, hy4⟩ := Prod.mk.inj hy3
  clear hy3
  obtain ⟨hz5, hy5⟩ := Prod.mk.inj hy4
  clear hy4
  subst hz1
  subst hz2
  subst hz3
  subst hz4
  subst hz5
  subst hy5
  exact hret _ _ dX8_comesSet_44 rfl

theorem lkX8_unpack_1 : Cond.fieldLink RX8 38 "TwiceHeardModel" "six" "[I" ∈ wsX8_unpack := List.mem_of_getElem? (i := 1) rfl
theorem lkX8_unpack_2 : Cond.constantLong RX8 101 (2000) ∈ wsX8_unpack := List.mem_of_getElem? (i := 2) rfl
theorem lkX8_unpack_3 : Cond.constantLong RX8 103 (4000000) ∈ wsX8_unpack := List.mem_of_getElem? (i := 3) rfl
theorem inX8_unpack_X8 : ∀ w ∈ wsX80, w ∈ wsX8_unpack := fun w h => List.mem_cons_of_mem _ (List.mem_append_right _ h)
abbrev rmX8_unpack : Room := { frames := 0, cells := 0, slots := 0, locals := 0 }
theorem hdX8_unpack : yX8_unpack.cls = RX8 ∧ yX8_unpack.cls ≠ "java/lang/invoke/MethodHandle" ∧ yX8_unpack.cls ≠ "java/lang/invoke/VarHandle" ∧ (parseMethodDescriptor yX8_unpack.desc).map (fun d => d.parameters.length) = some 2 := by decide +kernel
def fX8_unpack (sx : (Nat → Int32)) (v1 : Int64) (v3 : Int32) : Option ((Nat → Int32)) :=
  (wrI 6 sx v3 ((v1 - v1 / (2000 : Int64) * (2000 : Int64)).toInt32)).bind fun sx_11 =>
  (wrI 6 sx_11 (v3 + (1 : Int32)) (((v1 / (2000 : Int64)) - (v1 / (2000 : Int64)) / (2000 : Int64) * (2000 : Int64)).toInt32)).bind fun sx_29 =>
  (wrI 6 sx_29 (v3 + (2 : Int32)) ((v1 / (4000000 : Int64)).toInt32)).bind fun sx_43 =>
  some sx_43
set_option maxRecDepth 100000 in
set_option maxHeartbeats 4000000 in
theorem kX8_unpack (l : Launch) (D : va_G) (cI cJ cZ cN cM : ClassId) (a : Nat → Nat) (w : (Nat → Int32)) (kn : Int32) (kp : Int32) (sd : Int32) (ks : (Nat → Int32)) (bo : (Nat → Int32)) (bi : (Nat → Int32)) (bk : Int32) (ri : (Nat → Int32)) (fm : (Nat → Int32)) (tt : (Nat → Int32)) (le : Int32) (wa : (Nat → Int32)) (hd : (Nat → Int64)) (sx : (Nat → Int32)) (b1 : (Nat → Int64)) (b2 : (Nat → Int64)) (v1 : Int64) (v3 : Int32) (sx_o : (Nat → Int32)) (hf : fX8_unpack sx v1 v3 = some sx_o) : MetV l yX8_unpack wsX8_unpack rmX8_unpack D (TYL cI cJ cZ cN cM) [.ref (a 0), .long v1, .int v3] (mW cI cJ cZ cN cM a w kn kp sd ks bo bi bk ri fm tt le wa hd sx b1 b2) (mW cI cJ cZ cN cM a w kn kp sd ks bo bi bk ri fm tt le wa hd sx_o b1 b2) := by
  refine MetV.mk (cc := cX8_unpack) (maxL := 4) (own := RX8) [(0, .ref (a 0)), (1, .long v1), (3, .int v3)] (by decide +kernel) rfl rfl (Nat.le_of_ble_eq_true rfl) rfl ?_
  intro p e s m args below meth c A Q C hret
  unfold fX8_unpack at hf
  refine q_aload_n C 0 dX8_unpack_0 rfl ?_
  refine q_get C 0 14 dX8_unpack_1 rfl rfl (Nat.le_of_ble_eq_true rfl) inX8_unpack_X8 lkX8_unpack_1 rfl rfl ?_
  refine q_iload_n C 2 dX8_unpack_4 rfl ?_
  refine q_lload_n C 1 dX8_unpack_5 rfl ?_
  refine q_ldc2 C dX8_unpack_6 lkX8_unpack_2 ?_
  refine q_lremC C dX8_unpack_9 (by decide) ?_
  refine q_l2i C dX8_unpack_10 ?_
  refine q_iast C 10 0 (fun sx_11 => mW cI cJ cZ cN cM a w kn kp sd ks bo bi bk ri fm tt le wa hd sx_11 b1 b2) dX8_unpack_11 rfl rfl (fun _ => rfl) hf (fun sx_11 hf => ?_)
  refine q_aload_n C 0 dX8_unpack_12 rfl ?_
  refine q_get C 0 14 dX8_unpack_13 rfl rfl (Nat.le_of_ble_eq_true rfl) inX8_unpack_X8 lkX8_unpack_1 rfl rfl ?_
  refine q_iload_n C 2 dX8_unpack_16 rfl ?_
  refine q_iconst C 1 dX8_unpack_17 (by decide) ?_
  refine q_iadd C dX8_unpack_18 ?_
  refine q_lload_n C 1 dX8_unpack_19 rfl ?_
  refine q_ldc2 C dX8_unpack_20 lkX8_unpack_2 ?_
  refine q_ldivC C dX8_unpack_23 (by decide) ?_
  refine q_ldc2 C dX8_unpack_24 lkX8_unpack_2 ?_
  refine q_lremC C dX8_unpack_27 (by decide) ?_
  refine q_l2i C dX8_unpack_28 ?_
  refine q_iast C 10 0 (fun sx_29 => mW cI cJ cZ cN cM a w kn kp sd ks bo bi bk ri fm tt le wa hd sx_29 b1 b2) dX8_unpack_29 rfl rfl (fun _ => rfl) hf (fun sx_29 hf => ?_)
  refine q_aload_n C 0 dX8_unpack_30 rfl ?_
  refine q_get C 0 14 dX8_unpack_31 rfl rfl (Nat.le_of_ble_eq_true rfl) inX8_unpack_X8 lkX8_unpack_1 rfl rfl ?_
  refine q_iload_n C 2 dX8_unpack_34 rfl ?_
  refine q_iconst C 2 dX8_unpack_35 (by decide) ?_
  refine q_iadd C dX8_unpack_36 ?_
  refine q_lload_n C 1 dX8_unpack_37 rfl ?_
  refine q_ldc2 C dX8_unpack_38 lkX8_unpack_3 ?_
  refine q_ldivC C dX8_unpack_41 (by decide) ?_
  refine q_l2i C dX8_unpack_42 ?_
  refine q_iast C 10 0 (fun sx_43 => mW cI cJ cZ cN cM a w kn kp sd ks bo bi bk ri fm tt le wa hd sx_43 b1 b2) dX8_unpack_43 rfl rfl (fun _ => rfl) hf (fun sx_43 hf => ?_)
  have hz1 := Option.some.inj hf
  clear hf
  subst hz1
  exact hret _ _ dX8_unpack_44

theorem lkX8_leastAbove_1 : Cond.fieldLink RX8 38 "TwiceHeardModel" "six" "[I" ∈ wsX8_leastAbove := List.mem_of_getElem? (i := 1) rfl
theorem inX8_leastAbove_X8 : ∀ w ∈ wsX80, w ∈ wsX8_leastAbove := fun w h => List.mem_cons_of_mem _ (List.mem_append_right _ h)
abbrev rmX8_leastAbove : Room := { frames := 0, cells := 0, slots := 0, locals := 0 }
theorem hdX8_leastAbove : yX8_leastAbove.cls = RX8 ∧ yX8_leastAbove.cls ≠ "java/lang/invoke/MethodHandle" ∧ yX8_leastAbove.cls ≠ "java/lang/invoke/VarHandle" ∧ (parseMethodDescriptor yX8_leastAbove.desc).map (fun d => d.parameters.length) = some 1 := by decide +kernel
def fX8_leastAbove_L6 (sx : (Nat → Int32)) (v1 : Int32) : Nat → Int32 → Int32 → Option (Int32)
  | 0, _, _ => none
  | n + 1, v2, v3 =>
  if (6 : Int32) ≤ v3 then (
  some v2) else (
  (rdI 6 sx v3).bind fun x17 =>
  jn1 (fun (t0_42 : Int32) => 
  fX8_leastAbove_L6 sx v1 n t0_42 (v3 + 1)) fun k42 =>
  jn0 (
  k42 v2) fun k41 =>
  if x17 ≤ v1 then (
  k41) else (
  (rdI 6 sx v3).bind fun x27 =>
  if v2 ≤ x27 then (
  k41) else (
  (rdI 6 sx v3).bind fun x37 =>
  k42 x37)))
def fX8_leastAbove (sx : (Nat → Int32)) (v1 : Int32) : Option (Int32) :=
  (fX8_leastAbove_L6 sx v1 300 (1024 : Int32) (0 : Int32)).bind fun v2_6 =>
  some v2_6
set_option maxRecDepth 100000 in
set_option maxHeartbeats 4000000 in
theorem wX8_leastAbove_L6 {p : Program} {l : Launch} {e : Env} {s : State} {m : MethodId} {args : Array Value} {below : List Frame} {meth : Method} {c : Code} {Q : State → Prop} {D : va_G} {A : Nat → Prop} {cI cJ cZ cN cM : ClassId} (C : Cx p s m args c cX8_leastAbove 4 RX8 wsX8_leastAbove D (TYL cI cJ cZ cN cM) A) (a : Nat → Nat) (w : (Nat → Int32)) (kn : Int32) (kp : Int32) (sd : Int32) (ks : (Nat → Int32)) (bo : (Nat → Int32)) (bi : (Nat → Int32)) (bk : Int32) (ri : (Nat → Int32)) (fm : (Nat → Int32)) (tt : (Nat → Int32)) (le : Int32) (wa : (Nat → Int32)) (hd : (Nat → Int64)) (sx : (Nat → Int32)) (b1 : (Nat → Int64)) (b2 : (Nat → Int64)) (v1 : Int32) (o2 : Int32) (kk : WW p l e rmX8_leastAbove s m args below meth c Q D A 4 0 0 (mW cI cJ cZ cN cM a w kn kp sd ks bo bi bk ri fm tt le wa hd sx b1 b2) [(2, .int o2)] 49 []) : ∀ (n : Nat) (v2 : Int32) (v3 : Int32), fX8_leastAbove_L6 sx v1 n v2 v3 = some o2 → WW p l e rmX8_leastAbove s m args below meth c Q D A 4 0 0 (mW cI cJ cZ cN cM a w kn kp sd ks bo bi bk ri fm tt le wa hd sx b1 b2) [(0, .ref (a 0)), (1, .int v1), (2, .int v2), (3, .int v3)] 6 [] := by
  intro n
  induction n with
  | zero =>
    intro v2 v3 hf
    rw [fX8_leastAbove_L6] at hf
    cases hf
  | succ n ih =>
    intro v2 v3 hf
    rw [fX8_leastAbove_L6] at hf
    refine q_iload_n C 3 dX8_leastAbove_6 rfl ?_
    refine q_bipush C 6 dX8_leastAbove_7 (by decide) ?_
    refine q_icmp_ge C 49 dX8_leastAbove_9 (by decide) hf (fun hf => ?_) (fun hf => ?_)
    · refine q_lv [(2, .int v2)] [2] rfl ?_
      have hz1 := Option.some.inj hf
      clear hf
      subst hz1
      exact kk
    · refine q_aload_n C 0 dX8_leastAbove_12 rfl ?_
      refine q_get C 0 14 dX8_leastAbove_13 rfl rfl (Nat.le_of_ble_eq_true rfl) inX8_leastAbove_X8 lkX8_leastAbove_1 rfl rfl ?_
      refine q_iload_n C 3 dX8_leastAbove_16 rfl ?_
      refine q_iald C 10 0 dX8_leastAbove_17 rfl rfl hf (fun x17 hf => ?_)
      refine q_iload_n C 1 dX8_leastAbove_18 rfl ?_
      refine jn1_e (fun (t0_42 : Int32) => WW p l e rmX8_leastAbove s m args below meth c Q D A 4 0 0 (mW cI cJ cZ cN cM a w kn kp sd ks bo bi bk ri fm tt le wa hd sx b1 b2) [(0, .ref (a 0)), (1, .int v1), (3, .int v3)] 42 [.int t0_42]) hf ?_ ?_
      · intro t0_42 hf
        refine q_istore_n C [(2, .int t0_42), (0, .ref (a 0)), (1, .int v1), (3, .int v3)] dX8_leastAbove_42 (by decide) rfl ?_
        refine q_iinc C (v3 + 1) 3 [(3, .int (v3 + 1)), (2, .int t0_42), (0, .ref (a 0)), (1, .int v1)] dX8_leastAbove_43 rfl rfl (by decide) rfl ?_
        refine q_goto C 6 dX8_leastAbove_46 (by decide) ?_
        refine q_lv [(0, .ref (a 0)), (1, .int v1), (2, .int t0_42), (3, .int (v3 + 1))] [2, 3, 1, 0] rfl ?_
        exact ih _ _ hf
      intro k42 J42 hf
      refine jn0_e (WW p l e rmX8_leastAbove s m args below meth c Q D A 4 0 0 (mW cI cJ cZ cN cM a w kn kp sd ks bo bi bk ri fm tt le wa hd sx b1 b2) [(0, .ref (a 0)), (1, .int v1), (2, .int v2), (3, .int v3)] 41 []) hf ?_ ?_
      · intro hf
        refine q_iload_n C 2 dX8_leastAbove_41 rfl ?_
        refine q_lv [(0, .ref (a 0)), (1, .int v1), (3, .int v3)] [0, 1, 3] rfl ?_
        exact J42 _ hf
      intro k41 J41 hf
      refine q_icmp_le C 41 dX8_leastAbove_19 (by decide) hf (fun hf => ?_) (fun hf => ?_)
      · exact J41  hf
      · refine q_aload_n C 0 dX8_leastAbove_22 rfl ?_
        refine q_get C 0 14 dX8_leastAbove_23 rfl rfl (Nat.le_of_ble_eq_true rfl) inX8_leastAbove_X8 lkX8_leastAbove_1 rfl rfl ?_
        refine q_iload_n C 3 dX8_leastAbove_26 rfl ?_
        refine q_iald C 10 0 dX8_leastAbove_27 rfl rfl hf (fun x27 hf => ?_)
        refine q_iload_n C 2 dX8_leastAbove_28 rfl ?_
        refine q_icmp_ge C 41 dX8_leastAbove_29 (by decide) hf (fun hf => ?_) (fun hf => ?_)
        · exact J41  hf
        · refine q_aload_n C 0 dX8_leastAbove_32 rfl ?_
          refine q_get C 0 14 dX8_leastAbove_33 rfl rfl (Nat.le_of_ble_eq_true rfl) inX8_leastAbove_X8 lkX8_leastAbove_1 rfl rfl ?_
          refine q_iload_n C 3 dX8_leastAbove_36 rfl ?_
          refine q_iald C 10 0 dX8_leastAbove_37 rfl rfl hf (fun x37 hf => ?_)
          refine q_goto C 42 dX8_leastAbove_38 (by decide) ?_
          refine q_lv [(0, .ref (a 0)), (1, .int v1), (3, .int v3)] [0, 1, 3] rfl ?_
          exact J42 _ hf
set_option maxRecDepth 100000 in
set_option maxHeartbeats 4000000 in
theorem kX8_leastAbove (l : Launch) (D : va_G) (cI cJ cZ cN cM : ClassId) (a : Nat → Nat) (w : (Nat → Int32)) (kn : Int32) (kp : Int32) (sd : Int32) (ks : (Nat → Int32)) (bo : (Nat → Int32)) (bi : (Nat → Int32)) (bk : Int32) (ri : (Nat → Int32)) (fm : (Nat → Int32)) (tt : (Nat → Int32)) (le : Int32) (wa : (Nat → Int32)) (hd : (Nat → Int64)) (sx : (Nat → Int32)) (b1 : (Nat → Int64)) (b2 : (Nat → Int64)) (v1 : Int32) (r : Int32) (hf : fX8_leastAbove sx v1 = some r) : MetI l yX8_leastAbove wsX8_leastAbove rmX8_leastAbove D (TYL cI cJ cZ cN cM) [.ref (a 0), .int v1] (mW cI cJ cZ cN cM a w kn kp sd ks bo bi bk ri fm tt le wa hd sx b1 b2) (mW cI cJ cZ cN cM a w kn kp sd ks bo bi bk ri fm tt le wa hd sx b1 b2) r := by
  refine MetI.mk (cc := cX8_leastAbove) (maxL := 4) (own := RX8) (ty := .int) [(0, .ref (a 0)), (1, .int v1)] (by decide +kernel) rfl rfl (Nat.le_of_ble_eq_true rfl) rfl ?_
  intro p e s m args below meth c A Q C hret
  unfold fX8_leastAbove at hf
  refine q_sipush C 1024 dX8_leastAbove_0 (by decide) ?_
  refine q_istore_n C [(2, .int (1024 : Int32)), (0, .ref (a 0)), (1, .int v1)] dX8_leastAbove_3 (by decide) rfl ?_
  refine q_iconst C 0 dX8_leastAbove_4 (by decide) ?_
  refine q_istore_n C [(3, .int (0 : Int32)), (2, .int (1024 : Int32)), (0, .ref (a 0)), (1, .int v1)] dX8_leastAbove_5 (by decide) rfl ?_
  obtain ⟨v2_6, hL, hf⟩ := bd_e hf
  refine q_lv [(0, .ref (a 0)), (1, .int v1), (2, .int (1024 : Int32)), (3, .int (0 : Int32))] [2, 3, 1, 0] rfl ?_
  refine wX8_leastAbove_L6 C a w kn kp sd ks bo bi bk ri fm tt le wa hd sx b1 b2 v1 v2_6 ?_ 300 _ _ hL
  refine q_iload_n C 0 dX8_leastAbove_49 rfl ?_
  have hz1 := Option.some.inj hf
  clear hf
  subst hz1
  exact hret _ _ dX8_leastAbove_50 rfl

theorem lkX8_threeOf_1 : Cond.constantLong RX8 101 (2000) ∈ wsX8_threeOf := List.mem_of_getElem? (i := 1) rfl
theorem lkX8_threeOf_2 : Cond.constantLong RX8 103 (4000000) ∈ wsX8_threeOf := List.mem_of_getElem? (i := 2) rfl
theorem inX8_threeOf_X8 : ∀ w ∈ wsX80, w ∈ wsX8_threeOf := fun w h => List.mem_cons_of_mem _ (List.mem_append_right _ h)
abbrev rmX8_threeOf : Room := { frames := 1, cells := 0, slots := 0, locals := 23 }
theorem hdX8_threeOf : yX8_threeOf.cls = RX8 ∧ yX8_threeOf.cls ≠ "java/lang/invoke/MethodHandle" ∧ yX8_threeOf.cls ≠ "java/lang/invoke/VarHandle" ∧ (parseMethodDescriptor yX8_threeOf.desc).map (fun d => d.parameters.length) = some 2 := by decide +kernel
def fX8_threeOf (sx : (Nat → Int32)) (v1 : Int64) (v3 : Int64) : Option (Int64 × (Nat → Int32)) :=
  (fX8_unpack sx v1 (0 : Int32)).bind fun sx_3 =>
  (fX8_unpack sx_3 v3 (3 : Int32)).bind fun sx_9 =>
  (fX8_leastAbove sx_9 (-1 : Int32)).bind fun x14 =>
  (fX8_leastAbove sx_9 x14).bind fun x22 =>
  (fX8_leastAbove sx_9 x22).bind fun x30 =>
  some (((x14.toInt64 + ((2000 : Int64) * x22.toInt64)) + ((4000000 : Int64) * x30.toInt64)), sx_9)
set_option maxRecDepth 100000 in
set_option maxHeartbeats 4000000 in
theorem kX8_threeOf (l : Launch) (D : va_G) (cI cJ cZ cN cM : ClassId) (a : Nat → Nat) (w : (Nat → Int32)) (kn : Int32) (kp : Int32) (sd : Int32) (ks : (Nat → Int32)) (bo : (Nat → Int32)) (bi : (Nat → Int32)) (bk : Int32) (ri : (Nat → Int32)) (fm : (Nat → Int32)) (tt : (Nat → Int32)) (le : Int32) (wa : (Nat → Int32)) (hd : (Nat → Int64)) (sx : (Nat → Int32)) (b1 : (Nat → Int64)) (b2 : (Nat → Int64)) (v1 : Int64) (v3 : Int64) (r : Int64) (sx_o : (Nat → Int32)) (hf : fX8_threeOf sx v1 v3 = some (r, sx_o)) : MetL l yX8_threeOf wsX8_threeOf rmX8_threeOf D (TYL cI cJ cZ cN cM) [.ref (a 0), .long v1, .long v3] (mW cI cJ cZ cN cM a w kn kp sd ks bo bi bk ri fm tt le wa hd sx b1 b2) (mW cI cJ cZ cN cM a w kn kp sd ks bo bi bk ri fm tt le wa hd sx_o b1 b2) r := by
  refine MetL.mk (cc := cX8_threeOf) (maxL := 8) (own := RX8) [(0, .ref (a 0)), (1, .long v1), (3, .long v3)] (by decide +kernel) rfl rfl (Nat.le_of_ble_eq_true rfl) rfl ?_
  intro p e s m args below meth c A Q C hret
  unfold fX8_threeOf at hf
  refine q_aload_n C 0 dX8_threeOf_0 rfl ?_
  refine q_lload_n C 1 dX8_threeOf_1 rfl ?_
  refine q_iconst C 0 dX8_threeOf_2 (by decide) ?_
  obtain ⟨sx_3, hM, hf⟩ := bd_e hf
  refine q_callVV C (mW cI cJ cZ cN cM a w kn kp sd ks bo bi bk ri fm tt le wa hd sx_3 b1 b2) (kX8_unpack l D cI cJ cZ cN cM a w kn kp sd ks bo bi bk ri fm tt le wa hd sx b1 b2 v1 (0 : Int32) sx_3 hM) (cwV 2 C.1.2.2.2.2 gX8_threeOf_X8_unpack rfl rfl rfl hdX8_unpack ⟨Nat.le_of_ble_eq_true rfl, Nat.le_of_ble_eq_true rfl⟩) 0 7 rfl rfl FrX.all rfl rfl (Nat.le_of_ble_eq_true rfl) dX8_threeOf_3 ⟨Nat.zero_le _, Nat.zero_le _⟩ ?_
  refine q_aload_n C 0 dX8_threeOf_6 rfl ?_
  refine q_lload_n C 2 dX8_threeOf_7 rfl ?_
  refine q_iconst C 3 dX8_threeOf_8 (by decide) ?_
  obtain ⟨sx_9, hM, hf⟩ := bd_e hf
  refine q_callVV C (mW cI cJ cZ cN cM a w kn kp sd ks bo bi bk ri fm tt le wa hd sx_9 b1 b2) (kX8_unpack l D cI cJ cZ cN cM a w kn kp sd ks bo bi bk ri fm tt le wa hd sx_3 b1 b2 v3 (3 : Int32) sx_9 hM) (cwV 2 C.1.2.2.2.2 gX8_threeOf_X8_unpack rfl rfl rfl hdX8_unpack ⟨Nat.le_of_ble_eq_true rfl, Nat.le_of_ble_eq_true rfl⟩) 0 7 rfl rfl FrX.all rfl rfl (Nat.le_of_ble_eq_true rfl) dX8_threeOf_9 ⟨Nat.zero_le _, Nat.zero_le _⟩ ?_
  refine q_aload_n C 0 dX8_threeOf_12 rfl ?_
  refine q_iconst C (-1) dX8_threeOf_13 (by decide) ?_
  obtain ⟨x14, hM, hf⟩ := bd_e hf
  refine q_callVI C (mW cI cJ cZ cN cM a w kn kp sd ks bo bi bk ri fm tt le wa hd sx_9 b1 b2) (kX8_leastAbove l D cI cJ cZ cN cM a w kn kp sd ks bo bi bk ri fm tt le wa hd sx_9 b1 b2 (-1 : Int32) x14 hM) (cwV 1 C.1.2.2.2.2 gX8_threeOf_X8_leastAbove rfl rfl rfl hdX8_leastAbove ⟨Nat.le_of_ble_eq_true rfl, Nat.le_of_ble_eq_true rfl⟩) 0 7 rfl rfl FrX.all rfl rfl (Nat.le_of_ble_eq_true rfl) dX8_threeOf_14 ⟨Nat.zero_le _, Nat.zero_le _⟩ ?_
  refine q_istore C [(5, .int x14), (0, .ref (a 0)), (1, .long v1), (3, .long v3)] dX8_threeOf_17 (by decide) rfl ?_
  refine q_aload_n C 1 dX8_threeOf_19 rfl ?_
  refine q_iload C 0 dX8_threeOf_20 rfl ?_
  obtain ⟨x22, hM, hf⟩ := bd_e hf
  refine q_callVI C (mW cI cJ cZ cN cM a w kn kp sd ks bo bi bk ri fm tt le wa hd sx_9 b1 b2) (kX8_leastAbove l D cI cJ cZ cN cM a w kn kp sd ks bo bi bk ri fm tt le wa hd sx_9 b1 b2 x14 x22 hM) (cwV 1 C.1.2.2.2.2 gX8_threeOf_X8_leastAbove rfl rfl rfl hdX8_leastAbove ⟨Nat.le_of_ble_eq_true rfl, Nat.le_of_ble_eq_true rfl⟩) 0 7 rfl rfl FrX.all rfl rfl (Nat.le_of_ble_eq_true rfl) dX8_threeOf_22 ⟨Nat.zero_le _, Nat.zero_le _⟩ ?_
  refine q_istore C [(6, .int x22), (5, .int x14), (0, .ref (a 0)), (1, .long v1), (3, .long v3)] dX8_threeOf_25 (by decide) rfl ?_
  refine q_aload_n C 2 dX8_threeOf_27 rfl ?_
  refine q_iload C 0 dX8_threeOf_28 rfl ?_
  obtain ⟨x30, hM, hf⟩ := bd_e hf
  refine q_callVI C (mW cI cJ cZ cN cM a w kn kp sd ks bo bi bk ri fm tt le wa hd sx_9 b1 b2) (kX8_leastAbove l D cI cJ cZ cN cM a w kn kp sd ks bo bi bk ri fm tt le wa hd sx_9 b1 b2 x22 x30 hM) (cwV 1 C.1.2.2.2.2 gX8_threeOf_X8_leastAbove rfl rfl rfl hdX8_leastAbove ⟨Nat.le_of_ble_eq_true rfl, Nat.le_of_ble_eq_true rfl⟩) 0 7 rfl rfl FrX.all rfl rfl (Nat.le_of_ble_eq_true rfl) dX8_threeOf_30 ⟨Nat.zero_le _, Nat.zero_le _⟩ ?_
  refine q_istore C [(7, .int x30), (6, .int x22), (5, .int x14), (0, .ref (a 0)), (1, .long v1), (3, .long v3)] dX8_threeOf_33 (by decide) rfl ?_
  refine q_iload C 2 dX8_threeOf_35 rfl ?_
  refine q_i2l C dX8_threeOf_37 ?_
  refine q_ldc2 C dX8_threeOf_38 lkX8_threeOf_1 ?_
  refine q_iload C 1 dX8_threeOf_41 rfl ?_
  refine q_i2l C dX8_threeOf_43 ?_
  refine q_lmul C dX8_threeOf_44 ?_
  refine q_ladd C dX8_threeOf_45 ?_
  refine q_ldc2 C dX8_threeOf_46 lkX8_threeOf_2 ?_
  refine q_iload C 0 dX8_threeOf_49 rfl ?_
  refine q_i2l C dX8_threeOf_51 ?_
  refine q_lmul C dX8_threeOf_52 ?_
  refine q_ladd C dX8_threeOf_53 ?_
  have hy0 := Option.some.inj hf
  clear hf
  obtain ⟨hz1, hy1⟩ := Prod.mk.inj hy0
  clear hy0
  subst hz1
  subst hy1
  exact hret _ _ dX8_threeOf_54

theorem lkX8_threeOfItem_1 : Cond.constantLong RX8 112 (2048000) ∈ wsX8_threeOfItem := List.mem_of_getElem? (i := 1) rfl
theorem lkX8_threeOfItem_2 : Cond.constantLong RX8 114 (4096000000) ∈ wsX8_threeOfItem := List.mem_of_getElem? (i := 2) rfl
theorem inX8_threeOfItem_X8 : ∀ w ∈ wsX80, w ∈ wsX8_threeOfItem := fun w h => List.mem_cons_of_mem _ (List.mem_append_right _ h)
abbrev rmX8_threeOfItem : Room := { frames := 1, cells := 0, slots := 0, locals := 23 }
theorem hdX8_threeOfItem : yX8_threeOfItem.cls = RX8 ∧ yX8_threeOfItem.cls ≠ "java/lang/invoke/MethodHandle" ∧ yX8_threeOfItem.cls ≠ "java/lang/invoke/VarHandle" ∧ (parseMethodDescriptor yX8_threeOfItem.desc).map (fun d => d.parameters.length) = some 1 := by decide +kernel
def fX8_threeOfItem (w : (Nat → Int32)) (v1 : Int32) : Option (Int64) :=
  (fX8_markOf w v1).bind fun x2 =>
  some ((x2.toInt64 + (2048000 : Int64)) + (4096000000 : Int64))
set_option maxRecDepth 100000 in
set_option maxHeartbeats 4000000 in
theorem kX8_threeOfItem (l : Launch) (D : va_G) (cI cJ cZ cN cM : ClassId) (a : Nat → Nat) (w : (Nat → Int32)) (kn : Int32) (kp : Int32) (sd : Int32) (ks : (Nat → Int32)) (bo : (Nat → Int32)) (bi : (Nat → Int32)) (bk : Int32) (ri : (Nat → Int32)) (fm : (Nat → Int32)) (tt : (Nat → Int32)) (le : Int32) (wa : (Nat → Int32)) (hd : (Nat → Int64)) (sx : (Nat → Int32)) (b1 : (Nat → Int64)) (b2 : (Nat → Int64)) (v1 : Int32) (r : Int64) (hf : fX8_threeOfItem w v1 = some r) : MetL l yX8_threeOfItem wsX8_threeOfItem rmX8_threeOfItem D (TYL cI cJ cZ cN cM) [.ref (a 0), .int v1] (mW cI cJ cZ cN cM a w kn kp sd ks bo bi bk ri fm tt le wa hd sx b1 b2) (mW cI cJ cZ cN cM a w kn kp sd ks bo bi bk ri fm tt le wa hd sx b1 b2) r := by
  refine MetL.mk (cc := cX8_threeOfItem) (maxL := 2) (own := RX8) [(0, .ref (a 0)), (1, .int v1)] (by decide +kernel) rfl rfl (Nat.le_of_ble_eq_true rfl) rfl ?_
  intro p e s m args below meth c A Q C hret
  unfold fX8_threeOfItem at hf
  refine q_aload_n C 0 dX8_threeOfItem_0 rfl ?_
  refine q_iload_n C 1 dX8_threeOfItem_1 rfl ?_
  obtain ⟨x2, hM, hf⟩ := bd_e hf
  refine q_callVI C (mW cI cJ cZ cN cM a w kn kp sd ks bo bi bk ri fm tt le wa hd sx b1 b2) (kX8_markOf l D cI cJ cZ cN cM a w kn kp sd ks bo bi bk ri fm tt le wa hd sx b1 b2 v1 x2 hM) (cwV 1 C.1.2.2.2.2 gX8_threeOfItem_X8_markOf rfl rfl rfl hdX8_markOf ⟨Nat.le_of_ble_eq_true rfl, Nat.le_of_ble_eq_true rfl⟩) 0 7 rfl rfl FrX.all rfl rfl (Nat.le_of_ble_eq_true rfl) dX8_threeOfItem_2 ⟨Nat.zero_le _, Nat.zero_le _⟩ ?_
  refine q_i2l C dX8_threeOfItem_5 ?_
  refine q_ldc2 C dX8_threeOfItem_6 lkX8_threeOfItem_1 ?_
  refine q_ladd C dX8_threeOfItem_9 ?_
  refine q_ldc2 C dX8_threeOfItem_10 lkX8_threeOfItem_2 ?_
  refine q_ladd C dX8_threeOfItem_13 ?_
  have hz1 := Option.some.inj hf
  clear hf
  subst hz1
  exact hret _ _ dX8_threeOfItem_14

theorem inX8_both_X8 : ∀ w ∈ wsX80, w ∈ wsX8_both := fun w h => List.mem_cons_of_mem _ (List.mem_append_right _ h)
abbrev rmX8_both : Room := { frames := 2, cells := 0, slots := 0, locals := 50 }
theorem hdX8_both : yX8_both.cls = RX8 ∧ yX8_both.cls ≠ "java/lang/invoke/MethodHandle" ∧ yX8_both.cls ≠ "java/lang/invoke/VarHandle" ∧ (parseMethodDescriptor yX8_both.desc).map (fun d => d.parameters.length) = some 3 := by decide +kernel
def fX8_both (sx : (Nat → Int32)) (v1 : Int32) (v2 : Int64) (v4 : Int64) : Option (Int64 × (Nat → Int32)) :=
  if v1 = 0 then (
  some ((v2 + v4), sx)) else (
  if v1 = (2 : Int32) then (
  bd2 (fX8_threeOf sx v2 v4) fun x20 sx_20 =>
  some (x20, sx_20)) else (
  some ((v2 ||| v4), sx)))
set_option maxRecDepth 100000 in
set_option maxHeartbeats 4000000 in
theorem kX8_both (l : Launch) (D : va_G) (cI cJ cZ cN cM : ClassId) (a : Nat → Nat) (w : (Nat → Int32)) (kn : Int32) (kp : Int32) (sd : Int32) (ks : (Nat → Int32)) (bo : (Nat → Int32)) (bi : (Nat → Int32)) (bk : Int32) (ri : (Nat → Int32)) (fm : (Nat → Int32)) (tt : (Nat → Int32)) (le : Int32) (wa : (Nat → Int32)) (hd : (Nat → Int64)) (sx : (Nat → Int32)) (b1 : (Nat → Int64)) (b2 : (Nat → Int64)) (v1 : Int32) (v2 : Int64) (v4 : Int64) (r : Int64) (sx_o : (Nat → Int32)) (hf : fX8_both sx v1 v2 v4 = some (r, sx_o)) : MetL l yX8_both wsX8_both rmX8_both D (TYL cI cJ cZ cN cM) [.ref (a 0), .int v1, .long v2, .long v4] (mW cI cJ cZ cN cM a w kn kp sd ks bo bi bk ri fm tt le wa hd sx b1 b2) (mW cI cJ cZ cN cM a w kn kp sd ks bo bi bk ri fm tt le wa hd sx_o b1 b2) r := by
  refine MetL.mk (cc := cX8_both) (maxL := 6) (own := RX8) [(0, .ref (a 0)), (1, .int v1), (2, .long v2), (4, .long v4)] (by decide +kernel) rfl rfl (Nat.le_of_ble_eq_true rfl) rfl ?_
  intro p e s m args below meth c A Q C hret
  unfold fX8_both at hf
  refine q_iload_n C 1 dX8_both_0 rfl ?_
  refine q_if_ne C 11 dX8_both_1 (by decide) hf (fun hf => ?_) (fun hf => ?_)
  · refine q_iload_n C 1 dX8_both_11 rfl ?_
    refine q_iconst C 2 dX8_both_12 (by decide) ?_
    refine q_icmp_ne C 26 dX8_both_13 (by decide) hf (fun hf => ?_) (fun hf => ?_)
    · refine q_lload_n C 2 dX8_both_26 rfl ?_
      refine q_lload C 3 dX8_both_27 rfl ?_
      refine q_lor C dX8_both_29 ?_
      have hy0 := Option.some.inj hf
      clear hf
      obtain ⟨hz1, hy1⟩ := Prod.mk.inj hy0
      clear hy0
      subst hz1
      subst hy1
      exact hret _ _ dX8_both_30
    · refine q_aload_n C 0 dX8_both_16 rfl ?_
      refine q_lload_n C 2 dX8_both_17 rfl ?_
      refine q_lload C 3 dX8_both_18 rfl ?_
      obtain ⟨x20, sx_20, hM, hf⟩ := bd2_e hf
      refine q_callVL C (mW cI cJ cZ cN cM a w kn kp sd ks bo bi bk ri fm tt le wa hd sx_20 b1 b2) (kX8_threeOf l D cI cJ cZ cN cM a w kn kp sd ks bo bi bk ri fm tt le wa hd sx b1 b2 v2 v4 x20 sx_20 hM) (cwV 2 C.1.2.2.2.2 gX8_both_X8_threeOf rfl rfl rfl hdX8_threeOf ⟨Nat.le_of_ble_eq_true rfl, Nat.le_of_ble_eq_true rfl⟩) 0 7 rfl rfl FrX.all rfl rfl (Nat.le_of_ble_eq_true rfl) dX8_both_20 ⟨Nat.zero_le _, Nat.zero_le _⟩ ?_
      refine q_goto C 30 dX8_both_23 (by decide) ?_
      have hy0 := Option.some.inj hf
      clear hf
      obtain ⟨hz1, hy1⟩ := Prod.mk.inj hy0
      clear hy0
      subst hz1
      subst hy1
      exact hret _ _ dX8_both_30
  · refine q_lload_n C 2 dX8_both_4 rfl ?_
    refine q_lload C 3 dX8_both_5 rfl ?_
    refine q_ladd C dX8_both_7 ?_
    refine q_goto C 30 dX8_both_8 (by decide) ?_
    have hy0 := Option.some.inj hf
    clear hf
    obtain ⟨hz1, hy1⟩ := Prod.mk.inj hy0
    clear hy0
    subst hz1
    subst hy1
    exact hret _ _ dX8_both_30

theorem lkX8_summary_1 : Cond.constantLong RX8 120 (4098049024) ∈ wsX8_summary := List.mem_of_getElem? (i := 1) rfl
theorem inX8_summary_X8 : ∀ w ∈ wsX80, w ∈ wsX8_summary := fun w h => List.mem_cons_of_mem _ (List.mem_append_right _ h)
abbrev rmX8_summary : Room := { frames := 3, cells := 0, slots := 0, locals := 75 }
theorem hdX8_summary : yX8_summary.cls = RX8 ∧ yX8_summary.cls ≠ "java/lang/invoke/MethodHandle" ∧ yX8_summary.cls ≠ "java/lang/invoke/VarHandle" ∧ (parseMethodDescriptor yX8_summary.desc).map (fun d => d.parameters.length) = some 2 := by decide +kernel
def fX8_summary_L16 (w : (Nat → Int32)) (v1 : Int32) (v2 : Int32) : Nat → Int64 → Int32 → (Nat → Int32) → Option (Int64 × (Nat → Int32))
  | 0, _, _, _ => none
  | n + 1, v3, v5, sx =>
  if (16 : Int32) ≤ v5 then (
  some (v3, sx)) else (
  (fX8_has v2 v5).bind fun x26 =>
  jn2 (fun (u3_85 : Int64) (sx_85 : (Nat → Int32)) => 
  fX8_summary_L16 w v1 v2 n u3_85 (v5 + 1) sx_85) fun k85 =>
  if x26 = 0 then (
  k85 v3 sx) else (
  jn1 (fun (t0_74 : Int64) => 
  bd2 (fX8_both sx v1 v3 t0_74) fun x81 sx_81 =>
  k85 x81 sx_81) fun k74 =>
  if v1 = 0 then (
  k74 (1 : Int64)) else (
  if v1 = (1 : Int32) then (
  (fX8_rankOf w v5).bind fun x49 =>
  k74 ((1 : Int64) <<< (x49.toInt64 &&& 63))) else (
  if v1 = (2 : Int32) then (
  (fX8_threeOfItem w v5).bind fun x64 =>
  k74 x64) else (
  k74 ((1 : Int64) <<< (v5.toInt64 &&& 63)))))))
def fX8_summary (w : (Nat → Int32)) (sx : (Nat → Int32)) (v1 : Int32) (v2 : Int32) : Option (Int64 × (Nat → Int32)) :=
  jn1 (fun (t0_12 : Int64) => 
  bd2 (fX8_summary_L16 w v1 v2 300 t0_12 (0 : Int32) sx) fun v3_16 sx_16 =>
  some (v3_16, sx_16)) fun k12 =>
  if v1 = (2 : Int32) then (
  k12 (4098049024 : Int64)) else (
  k12 (0 : Int64))
set_option maxRecDepth 100000 in
set_option maxHeartbeats 4000000 in
theorem wX8_summary_L16 {p : Program} {l : Launch} {e : Env} {s : State} {m : MethodId} {args : Array Value} {below : List Frame} {meth : Method} {c : Code} {Q : State → Prop} {D : va_G} {A : Nat → Prop} {cI cJ cZ cN cM : ClassId} (C : Cx p s m args c cX8_summary 8 RX8 wsX8_summary D (TYL cI cJ cZ cN cM) A) (a : Nat → Nat) (w : (Nat → Int32)) (kn : Int32) (kp : Int32) (sd : Int32) (ks : (Nat → Int32)) (bo : (Nat → Int32)) (bi : (Nat → Int32)) (bk : Int32) (ri : (Nat → Int32)) (fm : (Nat → Int32)) (tt : (Nat → Int32)) (le : Int32) (wa : (Nat → Int32)) (hd : (Nat → Int64)) (b1 : (Nat → Int64)) (b2 : (Nat → Int64)) (v1 : Int32) (v2 : Int32) (o3 : Int64) (sx_o : (Nat → Int32)) (kk : WW p l e rmX8_summary s m args below meth c Q D A 8 0 0 (mW cI cJ cZ cN cM a w kn kp sd ks bo bi bk ri fm tt le wa hd sx_o b1 b2) [(3, .long o3)] 91 []) : ∀ (n : Nat) (v3 : Int64) (v5 : Int32) (sx : (Nat → Int32)), fX8_summary_L16 w v1 v2 n v3 v5 sx = some (o3, sx_o) → WW p l e rmX8_summary s m args below meth c Q D A 8 0 0 (mW cI cJ cZ cN cM a w kn kp sd ks bo bi bk ri fm tt le wa hd sx b1 b2) [(0, .ref (a 0)), (1, .int v1), (2, .int v2), (3, .long v3), (5, .int v5)] 16 [] := by
  intro n
  induction n with
  | zero =>
    intro v3 v5 sx hf
    rw [fX8_summary_L16] at hf
    cases hf
  | succ n ih =>
    intro v3 v5 sx hf
    rw [fX8_summary_L16] at hf
    refine q_iload C 4 dX8_summary_16 rfl ?_
    refine q_bipush C 16 dX8_summary_18 (by decide) ?_
    refine q_icmp_ge C 91 dX8_summary_20 (by decide) hf (fun hf => ?_) (fun hf => ?_)
    · refine q_lv [(3, .long v3)] [3] rfl ?_
      have hy0 := Option.some.inj hf
      clear hf
      obtain ⟨hz1, hy1⟩ := Prod.mk.inj hy0
      clear hy0
      subst hz1
      subst hy1
      exact kk
    · refine q_iload_n C 2 dX8_summary_23 rfl ?_
      refine q_iload C 4 dX8_summary_24 rfl ?_
      obtain ⟨x26, hM, hf⟩ := bd_e hf
      refine q_callSI C (mW cI cJ cZ cN cM a w kn kp sd ks bo bi bk ri fm tt le wa hd sx b1 b2) (kX8_has l D cI cJ cZ cN cM   v2 v5 x26 hM) (va_cwS 2 C.1.2.2.2.2 gX8_summary_X8_has rfl rfl rfl hdX8_has ⟨Nat.le_of_ble_eq_true rfl, Nat.le_of_ble_eq_true rfl⟩) FrX.none rfl rfl (Nat.le_of_ble_eq_true rfl) dX8_summary_26 ⟨Nat.zero_le _, Nat.zero_le _⟩ ?_
      refine jn2_e (fun (u3_85 : Int64) (sx_85 : (Nat → Int32)) => WW p l e rmX8_summary s m args below meth c Q D A 8 0 0 (mW cI cJ cZ cN cM a w kn kp sd ks bo bi bk ri fm tt le wa hd sx_85 b1 b2) [(0, .ref (a 0)), (1, .int v1), (2, .int v2), (3, .long u3_85), (5, .int v5)] 85 []) hf ?_ ?_
      · intro u3_85 sx_85 hf
        refine q_iinc C (v5 + 1) 4 [(5, .int (v5 + 1)), (0, .ref (a 0)), (1, .int v1), (2, .int v2), (3, .long u3_85)] dX8_summary_85 rfl rfl (by decide) rfl ?_
        refine q_goto C 16 dX8_summary_88 (by decide) ?_
        refine q_lv [(0, .ref (a 0)), (1, .int v1), (2, .int v2), (3, .long u3_85), (5, .int (v5 + 1))] [1, 2, 3, 4, 0] rfl ?_
        exact ih _ _ _ hf
      intro k85 J85 hf
      refine q_if_eq C 85 dX8_summary_29 (by decide) hf (fun hf => ?_) (fun hf => ?_)
      · exact J85 _ _ hf
      · refine q_iload_n C 1 dX8_summary_32 rfl ?_
        refine jn1_e (fun (t0_74 : Int64) => WW p l e rmX8_summary s m args below meth c Q D A 8 0 0 (mW cI cJ cZ cN cM a w kn kp sd ks bo bi bk ri fm tt le wa hd sx b1 b2) [(0, .ref (a 0)), (1, .int v1), (2, .int v2), (3, .long v3), (5, .int v5)] 74 [.long t0_74]) hf ?_ ?_
        · intro t0_74 hf
          refine q_lstore C [(6, .long t0_74), (0, .ref (a 0)), (1, .int v1), (2, .int v2), (3, .long v3), (5, .int v5)] dX8_summary_74 (by decide) rfl ?_
          refine q_aload_n C 1 dX8_summary_76 rfl ?_
          refine q_iload_n C 2 dX8_summary_77 rfl ?_
          refine q_lload_n C 4 dX8_summary_78 rfl ?_
          refine q_lload C 0 dX8_summary_79 rfl ?_
          obtain ⟨x81, sx_81, hM, hf⟩ := bd2_e hf
          refine q_callVL C (mW cI cJ cZ cN cM a w kn kp sd ks bo bi bk ri fm tt le wa hd sx_81 b1 b2) (kX8_both l D cI cJ cZ cN cM a w kn kp sd ks bo bi bk ri fm tt le wa hd sx b1 b2 v1 v3 t0_74 x81 sx_81 hM) (cwV 3 C.1.2.2.2.2 gX8_summary_X8_both rfl rfl rfl hdX8_both ⟨Nat.le_of_ble_eq_true rfl, Nat.le_of_ble_eq_true rfl⟩) 0 7 rfl rfl FrX.all rfl rfl (Nat.le_of_ble_eq_true rfl) dX8_summary_81 ⟨Nat.zero_le _, Nat.zero_le _⟩ ?_
          refine q_lstore_n C [(3, .long x81), (6, .long t0_74), (0, .ref (a 0)), (1, .int v1), (2, .int v2), (5, .int v5)] dX8_summary_84 (by decide) rfl ?_
          refine q_lv [(0, .ref (a 0)), (1, .int v1), (2, .int v2), (3, .long x81), (5, .int v5)] [2, 3, 4, 0, 5] rfl ?_
          exact J85 _ _ hf
        intro k74 J74 hf
        refine q_if_ne C 40 dX8_summary_33 (by decide) hf (fun hf => ?_) (fun hf => ?_)
        · refine q_iload_n C 1 dX8_summary_40 rfl ?_
          refine q_iconst C 1 dX8_summary_41 (by decide) ?_
          refine q_icmp_ne C 56 dX8_summary_42 (by decide) hf (fun hf => ?_) (fun hf => ?_)
          · refine q_iload_n C 1 dX8_summary_56 rfl ?_
            refine q_iconst C 2 dX8_summary_57 (by decide) ?_
            refine q_icmp_ne C 70 dX8_summary_58 (by decide) hf (fun hf => ?_) (fun hf => ?_)
            · refine q_lconst C 1 dX8_summary_70 (by decide) ?_
              refine q_iload C 4 dX8_summary_71 rfl ?_
              refine q_lshl C dX8_summary_73 ?_
              exact J74 _ hf
            · refine q_aload_n C 0 dX8_summary_61 rfl ?_
              refine q_iload C 4 dX8_summary_62 rfl ?_
              obtain ⟨x64, hM, hf⟩ := bd_e hf
              refine q_callVL C (mW cI cJ cZ cN cM a w kn kp sd ks bo bi bk ri fm tt le wa hd sx b1 b2) (kX8_threeOfItem l D cI cJ cZ cN cM a w kn kp sd ks bo bi bk ri fm tt le wa hd sx b1 b2 v5 x64 hM) (cwV 1 C.1.2.2.2.2 gX8_summary_X8_threeOfItem rfl rfl rfl hdX8_threeOfItem ⟨Nat.le_of_ble_eq_true rfl, Nat.le_of_ble_eq_true rfl⟩) 0 7 rfl rfl FrX.all rfl rfl (Nat.le_of_ble_eq_true rfl) dX8_summary_64 ⟨Nat.zero_le _, Nat.zero_le _⟩ ?_
              refine q_goto C 74 dX8_summary_67 (by decide) ?_
              exact J74 _ hf
          · refine q_lconst C 1 dX8_summary_45 (by decide) ?_
            refine q_aload_n C 0 dX8_summary_46 rfl ?_
            refine q_iload C 4 dX8_summary_47 rfl ?_
            obtain ⟨x49, hM, hf⟩ := bd_e hf
            refine q_callVI C (mW cI cJ cZ cN cM a w kn kp sd ks bo bi bk ri fm tt le wa hd sx b1 b2) (kX8_rankOf l D cI cJ cZ cN cM a w kn kp sd ks bo bi bk ri fm tt le wa hd sx b1 b2 v5 x49 hM) (cwV 1 C.1.2.2.2.2 gX8_summary_X8_rankOf rfl rfl rfl hdX8_rankOf ⟨Nat.le_of_ble_eq_true rfl, Nat.le_of_ble_eq_true rfl⟩) 0 7 rfl rfl FrX.all rfl rfl (Nat.le_of_ble_eq_true rfl) dX8_summary_49 ⟨Nat.zero_le _, Nat.zero_le _⟩ ?_
            refine q_lshl C dX8_summary_52 ?_
            refine q_goto C 74 dX8_summary_53 (by decide) ?_
            exact J74 _ hf
        · refine q_lconst C 1 dX8_summary_36 (by decide) ?_
          refine q_goto C 74 dX8_summary_37 (by decide) ?_
          exact J74 _ hf
set_option maxRecDepth 100000 in
set_option maxHeartbeats 4000000 in
theorem kX8_summary (l : Launch) (D : va_G) (cI cJ cZ cN cM : ClassId) (a : Nat → Nat) (w : (Nat → Int32)) (kn : Int32) (kp : Int32) (sd : Int32) (ks : (Nat → Int32)) (bo : (Nat → Int32)) (bi : (Nat → Int32)) (bk : Int32) (ri : (Nat → Int32)) (fm : (Nat → Int32)) (tt : (Nat → Int32)) (le : Int32) (wa : (Nat → Int32)) (hd : (Nat → Int64)) (sx : (Nat → Int32)) (b1 : (Nat → Int64)) (b2 : (Nat → Int64)) (v1 : Int32) (v2 : Int32) (r : Int64) (sx_o : (Nat → Int32)) (hf : fX8_summary w sx v1 v2 = some (r, sx_o)) : MetL l yX8_summary wsX8_summary rmX8_summary D (TYL cI cJ cZ cN cM) [.ref (a 0), .int v1, .int v2] (mW cI cJ cZ cN cM a w kn kp sd ks bo bi bk ri fm tt le wa hd sx b1 b2) (mW cI cJ cZ cN cM a w kn kp sd ks bo bi bk ri fm tt le wa hd sx_o b1 b2) r := by
  refine MetL.mk (cc := cX8_summary) (maxL := 8) (own := RX8) [(0, .ref (a 0)), (1, .int v1), (2, .int v2)] (by decide +kernel) rfl rfl (Nat.le_of_ble_eq_true rfl) rfl ?_
  intro p e s m args below meth c A Q C hret
  unfold fX8_summary at hf
  refine q_iload_n C 1 dX8_summary_0 rfl ?_
  refine q_iconst C 2 dX8_summary_1 (by decide) ?_
  refine jn1_e (fun (t0_12 : Int64) => WW p l e rmX8_summary s m args below meth c Q D A 8 0 0 (mW cI cJ cZ cN cM a w kn kp sd ks bo bi bk ri fm tt le wa hd sx b1 b2) [(0, .ref (a 0)), (1, .int v1), (2, .int v2)] 12 [.long t0_12]) hf ?_ ?_
  · intro t0_12 hf
    refine q_lstore_n C [(3, .long t0_12), (0, .ref (a 0)), (1, .int v1), (2, .int v2)] dX8_summary_12 (by decide) rfl ?_
    refine q_iconst C 0 dX8_summary_13 (by decide) ?_
    refine q_istore C [(5, .int (0 : Int32)), (3, .long t0_12), (0, .ref (a 0)), (1, .int v1), (2, .int v2)] dX8_summary_14 (by decide) rfl ?_
    obtain ⟨v3_16, sx_16, hL, hf⟩ := bd2_e hf
    refine q_lv [(0, .ref (a 0)), (1, .int v1), (2, .int v2), (3, .long t0_12), (5, .int (0 : Int32))] [2, 3, 4, 1, 0] rfl ?_
    refine wX8_summary_L16 C a w kn kp sd ks bo bi bk ri fm tt le wa hd b1 b2 v1 v2 v3_16 sx_16 ?_ 300 _ _ _ hL
    refine q_lload_n C 0 dX8_summary_91 rfl ?_
    have hy0 := Option.some.inj hf
    clear hf
    obtain ⟨hz1, hy1⟩ := Prod.mk.inj hy0
    clear hy0
    subst hz1
    subst hy1
    exact hret _ _ dX8_summary_92
  intro k12 J12 hf
  refine q_icmp_ne C 11 dX8_summary_2 (by decide) hf (fun hf => ?_) (fun hf => ?_)
  · refine q_lconst C 0 dX8_summary_11 (by decide) ?_
    exact J12 _ hf
  · refine q_ldc2 C dX8_summary_5 lkX8_summary_1 ?_
    refine q_goto C 12 dX8_summary_8 (by decide) ?_
    exact J12 _ hf
