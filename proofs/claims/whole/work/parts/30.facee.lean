theorem lkX7_goBack_1 : Cond.constant RX7 110 (-1000000001) ∈ wsX7_goBack := List.mem_of_getElem? (i := 1) rfl
theorem lkX7_goBack_2 : Cond.fieldLink RX7 46 "TwiceHeard" "images" "[LTwiceHeard$Image;" ∈ wsX7_goBack := List.mem_of_getElem? (i := 2) rfl
theorem lkX7_goBack_3 : Cond.fieldLink RX7 222 "TwiceHeard$Image" "kept" "Z" ∈ wsX7_goBack := List.mem_of_getElem? (i := 3) rfl
theorem lkX7_goBack_4 : Cond.constant RX7 200 (-1000000003) ∈ wsX7_goBack := List.mem_of_getElem? (i := 4) rfl
theorem lkX7_goBack_5 : Cond.fieldLink RX7 40 "TwiceHeard" "draws" "LTwiceHeard$Draws;" ∈ wsX7_goBack := List.mem_of_getElem? (i := 5) rfl
theorem lkX7_goBack_6 : Cond.fieldLink RX7 226 "TwiceHeard$Image" "seed" "I" ∈ wsX7_goBack := List.mem_of_getElem? (i := 6) rfl
theorem lkX7_goBack_7 : Cond.fieldLink RX7 102 "TwiceHeard$Draws" "seed" "I" ∈ wsX7_goBack := List.mem_of_getElem? (i := 7) rfl
theorem lkX7_goBack_8 : Cond.fieldLink RX7 10 "TwiceHeard" "net" "LTwiceHeard$Net;" ∈ wsX7_goBack := List.mem_of_getElem? (i := 8) rfl
theorem lkX7_goBack_9 : Cond.fieldLink RX7 227 "TwiceHeard$Image" "net" "LTwiceHeard$Net;" ∈ wsX7_goBack := List.mem_of_getElem? (i := 9) rfl
theorem lkX7_goBack_10 : Cond.fieldLink RX7 19 "TwiceHeard" "past" "LTwiceHeard$Past;" ∈ wsX7_goBack := List.mem_of_getElem? (i := 10) rfl
theorem inX7_goBack_X7 : ∀ w ∈ wsX70, w ∈ wsX7_goBack := fun w h => List.mem_cons_of_mem _ (List.mem_append_left _ (List.mem_append_left _ (List.mem_append_left _ (List.mem_append_left _ (List.mem_append_right _ h)))))
theorem inX7_goBack_X2 : ∀ w ∈ wsX20, w ∈ wsX7_goBack := fun w h => List.mem_cons_of_mem _ (List.mem_append_left _ (List.mem_append_left _ (List.mem_append_left _ (List.mem_append_right _ h))))
theorem inX7_goBack_X1 : ∀ w ∈ wsX10, w ∈ wsX7_goBack := fun w h => List.mem_cons_of_mem _ (List.mem_append_left _ (List.mem_append_left _ (List.mem_append_right _ h)))
theorem inX7_goBack_X3 : ∀ w ∈ wsX30, w ∈ wsX7_goBack := fun w h => List.mem_cons_of_mem _ (List.mem_append_left _ (List.mem_append_right _ h))
theorem inX7_goBack_X4 : ∀ w ∈ wsX40, w ∈ wsX7_goBack := fun w h => List.mem_cons_of_mem _ (List.mem_append_right _ h)
abbrev rmX7_goBack : Room := { frames := 2, cells := 0, slots := 0, locals := 61 }
theorem hdX7_goBack : yX7_goBack.cls = RX7 ∧ yX7_goBack.cls ≠ "java/lang/invoke/MethodHandle" ∧ yX7_goBack.cls ≠ "java/lang/invoke/VarHandle" ∧ (parseMethodDescriptor yX7_goBack.desc).map (fun d => d.parameters.length) = some 1 := by decide +kernel
def fX7_goBack (sz : Int32) (sa : Int32) (mo : Int32) (li : (Nat → Int32)) (lo : (Nat → Int32)) (he : (Nat → Int32)) (pz : Int32) (ik : (Nat → Int32)) (is_ : (Nat → Int32)) (isz : (Nat → Int32)) (isa : (Nat → Int32)) (imo : (Nat → Int32)) (ili : (Nat → Nat → Int32)) (ilo : (Nat → Nat → Int32)) (ihe : (Nat → Nat → Int32)) (sd : Int32) (v1 : Int32) : Option (Int32 × Int32 × Int32 × Int32 × (Nat → Int32) × (Nat → Int32) × (Nat → Int32) × Int32 × Int32) :=
  (fX7_within v1 (0 : Int32) (1 : Int32)).bind fun x3 =>
  if x3 = 0 then (
  some ((-1000000001 : Int32), sz, sa, mo, li, lo, he, pz, sd)) else (
  (ixN 2 v1).bind fun j17 =>
  if (ik j17) = 0 then (
  some ((-1000000003 : Int32), sz, sa, mo, li, lo, he, pz, sd)) else (
  (ixN 2 v1).bind fun j36 =>
  (ixN 2 v1).bind fun j52 =>
  bd6 (fX3_become sz sa mo li lo he (isz j52) (isa j52) (imo j52) (ili j52) (ilo j52) (ihe j52)) fun sz_56 sa_56 mo_56 li_56 lo_56 he_56 =>
  (fX4_forget pz).bind fun pz_63 =>
  some ((1 : Int32), sz_56, sa_56, mo_56, li_56, lo_56, he_56, pz_63, (is_ j36))))
set_option maxRecDepth 100000 in
set_option maxHeartbeats 4000000 in
theorem kX7_goBack (l : Launch) (D : va_G) (cI cJ cZ cN cM : ClassId) (xa : Nat → Nat) (na : Nat → Nat) (pa : Nat → Nat) (ta : Nat → Nat) (ba : Nat → Nat) (da : Nat → Nat) (ia : Nat → Nat) (ga : Nat → Nat) (rc : (Nat → Int64)) (sz : Int32) (sa : Int32) (mo : Int32) (li : (Nat → Int32)) (lo : (Nat → Int32)) (he : (Nat → Int32)) (pz : Int32) (pn : Int32) (ik : (Nat → Int32)) (is_ : (Nat → Int32)) (isz : (Nat → Int32)) (isa : (Nat → Int32)) (imo : (Nat → Int32)) (ili : (Nat → Nat → Int32)) (ilo : (Nat → Nat → Int32)) (ihe : (Nat → Nat → Int32)) (sd : Int32) (v1 : Int32) (r : Int32) (sz_o : Int32) (sa_o : Int32) (mo_o : Int32) (li_o : (Nat → Int32)) (lo_o : (Nat → Int32)) (he_o : (Nat → Int32)) (pz_o : Int32) (sd_o : Int32) (hf : fX7_goBack sz sa mo li lo he pz ik is_ isz isa imo ili ilo ihe sd v1 = some (r, sz_o, sa_o, mo_o, li_o, lo_o, he_o, pz_o, sd_o)) : MetI l yX7_goBack wsX7_goBack rmX7_goBack D (TYL cI cJ cZ cN cM) [.ref (xa 0), .int v1] (List.flatten [xW cI cJ cZ cN cM xa na pa ta ba da ia rc, nW cI cJ cZ cN cM na sz sa mo li lo he, pW cI cJ cZ cN cM pa ga pz pn, iW cI cJ cZ cN cM ia ik is_ isz isa imo ili ilo ihe, dW cI cJ cZ cN cM da sd]) (List.flatten [xW cI cJ cZ cN cM xa na pa ta ba da ia rc, nW cI cJ cZ cN cM na sz_o sa_o mo_o li_o lo_o he_o, pW cI cJ cZ cN cM pa ga pz_o pn, iW cI cJ cZ cN cM ia ik is_ isz isa imo ili ilo ihe, dW cI cJ cZ cN cM da sd_o]) r := by
  refine MetI.mk (cc := cX7_goBack) (maxL := 2) (own := RX7) (ty := .int) [(0, .ref (xa 0)), (1, .int v1)] (by decide +kernel) rfl rfl (Nat.le_of_ble_eq_true rfl) rfl ?_
  intro p e s m args below meth c A Q C hret
  unfold fX7_goBack at hf
  refine q_iload_n C 1 dX7_goBack_0 rfl ?_
  refine q_iconst C 0 dX7_goBack_1 (by decide) ?_
  refine q_iconst C 1 dX7_goBack_2 (by decide) ?_
  obtain ⟨x3, hM, hf⟩ := bd_e hf
  refine q_callSI C (List.flatten [xW cI cJ cZ cN cM xa na pa ta ba da ia rc, nW cI cJ cZ cN cM na sz sa mo li lo he, pW cI cJ cZ cN cM pa ga pz pn, iW cI cJ cZ cN cM ia ik is_ isz isa imo ili ilo ihe, dW cI cJ cZ cN cM da sd]) (kX7_within l D cI cJ cZ cN cM   v1 (0 : Int32) (1 : Int32) x3 hM) (va_cwS 3 C.1.2.2.2.2 gX7_goBack_X7_within rfl rfl rfl hdX7_within ⟨Nat.le_of_ble_eq_true rfl, Nat.le_of_ble_eq_true rfl⟩) FrX.none rfl rfl (Nat.le_of_ble_eq_true rfl) dX7_goBack_3 ⟨Nat.zero_le _, Nat.zero_le _⟩ ?_
  refine q_if_ne C 12 dX7_goBack_6 (by decide) hf (fun hf => ?_) (fun hf => ?_)
  · refine q_aload_n C 0 dX7_goBack_12 rfl ?_
    refine q_get C 0 5 dX7_goBack_13 rfl rfl (Nat.le_of_ble_eq_true rfl) inX7_goBack_X7 lkX7_goBack_2 rfl rfl ?_
    refine q_iload_n C 1 dX7_goBack_16 rfl ?_
    refine q_aaldB C (fun j => ia (1 + 5 * j)) 7 4 dX7_goBack_17 rfl rfl (fun _ => rfl) hf (fun j17 hj17 hf => ?_)
    refine q_get C (8 + 5 * j17) 0 dX7_goBack_18 (co_2x (P := fun j17 => (List.flatten [xW cI cJ cZ cN cM xa na pa ta ba da ia rc, nW cI cJ cZ cN cM na sz sa mo li lo he, pW cI cJ cZ cN cM pa ga pz pn, iW cI cJ cZ cN cM ia ik is_ isz isa imo ili ilo ihe, dW cI cJ cZ cN cM da sd])[(8 + 5 * j17)]? = some (ia (1 + 5 * j17), .inr (2, [.int (ik j17), .int (is_ j17), .ref (ia (2 + 5 * j17))]))) rfl rfl hj17) rfl (Nat.le_of_ble_eq_true rfl) inX7_goBack_X2 lkX7_goBack_3 rfl rfl ?_
    refine q_if_ne C 27 dX7_goBack_21 (by decide) hf (fun hf => ?_) (fun hf => ?_)
    · refine q_aload_n C 0 dX7_goBack_27 rfl ?_
      refine q_get C 0 4 dX7_goBack_28 rfl rfl (Nat.le_of_ble_eq_true rfl) inX7_goBack_X7 lkX7_goBack_5 rfl rfl ?_
      refine q_aload_n C 0 dX7_goBack_31 rfl ?_
      refine q_get C 0 5 dX7_goBack_32 rfl rfl (Nat.le_of_ble_eq_true rfl) inX7_goBack_X7 lkX7_goBack_2 rfl rfl ?_
      refine q_iload_n C 1 dX7_goBack_35 rfl ?_
      refine q_aaldB C (fun j => ia (1 + 5 * j)) 7 4 dX7_goBack_36 rfl rfl (fun _ => rfl) hf (fun j36 hj36 hf => ?_)
      refine q_get C (8 + 5 * j36) 1 dX7_goBack_37 (co_2x (P := fun j36 => (List.flatten [xW cI cJ cZ cN cM xa na pa ta ba da ia rc, nW cI cJ cZ cN cM na sz sa mo li lo he, pW cI cJ cZ cN cM pa ga pz pn, iW cI cJ cZ cN cM ia ik is_ isz isa imo ili ilo ihe, dW cI cJ cZ cN cM da sd])[(8 + 5 * j36)]? = some (ia (1 + 5 * j36), .inr (2, [.int (ik j36), .int (is_ j36), .ref (ia (2 + 5 * j36))]))) rfl rfl hj36) rfl (Nat.le_of_ble_eq_true rfl) inX7_goBack_X2 lkX7_goBack_6 rfl rfl ?_
      refine q_put C 18 0 (List.flatten [xW cI cJ cZ cN cM xa na pa ta ba da ia rc, nW cI cJ cZ cN cM na sz sa mo li lo he, pW cI cJ cZ cN cM pa ga pz pn, iW cI cJ cZ cN cM ia ik is_ isz isa imo ili ilo ihe, dW cI cJ cZ cN cM da (is_ j36)]) dX7_goBack_40 rfl rfl (Nat.le_of_ble_eq_true rfl) inX7_goBack_X1 tyX1 tyX1_ok nmX1 lkX7_goBack_7 rfl rfl rfl rfl (Nat.le_of_ble_eq_true rfl) rfl ?_
      refine q_aload_n C 0 dX7_goBack_43 rfl ?_
      refine q_get C 0 0 dX7_goBack_44 rfl rfl (Nat.le_of_ble_eq_true rfl) inX7_goBack_X7 lkX7_goBack_8 rfl rfl ?_
      refine q_aload_n C 0 dX7_goBack_47 rfl ?_
      refine q_get C 0 5 dX7_goBack_48 rfl rfl (Nat.le_of_ble_eq_true rfl) inX7_goBack_X7 lkX7_goBack_2 rfl rfl ?_
      refine q_iload_n C 1 dX7_goBack_51 rfl ?_
      refine q_aaldB C (fun j => ia (1 + 5 * j)) 7 4 dX7_goBack_52 rfl rfl (fun _ => rfl) hf (fun j52 hj52 hf => ?_)
      refine q_get C (8 + 5 * j52) 2 dX7_goBack_53 (co_2x (P := fun j52 => (List.flatten [xW cI cJ cZ cN cM xa na pa ta ba da ia rc, nW cI cJ cZ cN cM na sz sa mo li lo he, pW cI cJ cZ cN cM pa ga pz pn, iW cI cJ cZ cN cM ia ik is_ isz isa imo ili ilo ihe, dW cI cJ cZ cN cM da (is_ j36)])[(8 + 5 * j52)]? = some (ia (1 + 5 * j52), .inr (2, [.int (ik j52), .int (is_ j52), .ref (ia (2 + 5 * j52))]))) rfl rfl hj52) rfl (Nat.le_of_ble_eq_true rfl) inX7_goBack_X2 lkX7_goBack_9 rfl rfl ?_
      obtain ⟨sz_56, sa_56, mo_56, li_56, lo_56, he_56, hM, hf⟩ := bd6_e hf
      refine q_callVV C (List.flatten [xW cI cJ cZ cN cM xa na pa ta ba da ia rc, nW cI cJ cZ cN cM na sz_56 sa_56 mo_56 li_56 lo_56 he_56, pW cI cJ cZ cN cM pa ga pz pn, iW cI cJ cZ cN cM ia ik is_ isz isa imo ili ilo ihe, dW cI cJ cZ cN cM da (is_ j36)]) (kX3_become l D cI cJ cZ cN cM na (fun i => ia (2 + 5 * j52 + i)) sz sa mo li lo he (isz j52) (isa j52) (imo j52) (ili j52) (ilo j52) (ihe j52)  sz_56 sa_56 mo_56 li_56 lo_56 he_56 hM) (cwV 1 C.1.2.2.2.2 gX7_goBack_X3_become rfl rfl rfl hdX3_become ⟨Nat.le_of_ble_eq_true rfl, Nat.le_of_ble_eq_true rfl⟩) 2 3 rfl rfl (co_2x (P := fun j52 => FrX (List.flatten [xW cI cJ cZ cN cM xa na pa ta ba da ia rc, nW cI cJ cZ cN cM na sz sa mo li lo he, pW cI cJ cZ cN cM pa ga pz pn, iW cI cJ cZ cN cM ia ik is_ isz isa imo ili ilo ihe, dW cI cJ cZ cN cM da (is_ j36)]) (List.flatten [nW cI cJ cZ cN cM na sz sa mo li lo he, nW cI cJ cZ cN cM (fun i => ia (2 + 5 * j52 + i)) (isz j52) (isa j52) (imo j52) (ili j52) (ilo j52) (ihe j52)]) (List.flatten [nW cI cJ cZ cN cM na sz_56 sa_56 mo_56 li_56 lo_56 he_56, nW cI cJ cZ cN cM (fun i => ia (2 + 5 * j52 + i)) (isz j52) (isa j52) (imo j52) (ili j52) (ilo j52) (ihe j52)]) (List.flatten [xW cI cJ cZ cN cM xa na pa ta ba da ia rc, nW cI cJ cZ cN cM na sz_56 sa_56 mo_56 li_56 lo_56 he_56, pW cI cJ cZ cN cM pa ga pz pn, iW cI cJ cZ cN cM ia ik is_ isz isa imo ili ilo ihe, dW cI cJ cZ cN cM da (is_ j36)])) (FrX.ofB [2, 3, 4, 5, 9, 10, 11, 12] [0, 1, 6, 7, 8, 13, 14, 15, 16, 17, 18] [0, 1, 11, 12, 13, 14, 2, 3, 4, 15, 16, 17, 18, 5, 6, 7, 8, 9, 10] rfl rfl rfl rfl rfl rfl rfl) (FrX.ofB [2, 3, 4, 5, 14, 15, 16, 17] [0, 1, 6, 7, 8, 9, 10, 11, 12, 13, 18] [0, 1, 11, 12, 13, 14, 2, 3, 4, 5, 6, 7, 8, 9, 15, 16, 17, 18, 10] rfl rfl rfl rfl rfl rfl rfl) hj52) rfl rfl (Nat.le_of_ble_eq_true rfl) dX7_goBack_56 ⟨Nat.zero_le _, Nat.zero_le _⟩ ?_
      refine q_aload_n C 0 dX7_goBack_59 rfl ?_
      refine q_get C 0 1 dX7_goBack_60 rfl rfl (Nat.le_of_ble_eq_true rfl) inX7_goBack_X7 lkX7_goBack_10 rfl rfl ?_
      obtain ⟨pz_63, hM, hf⟩ := bd_e hf
      refine q_callVV C (List.flatten [xW cI cJ cZ cN cM xa na pa ta ba da ia rc, nW cI cJ cZ cN cM na sz_56 sa_56 mo_56 li_56 lo_56 he_56, pW cI cJ cZ cN cM pa ga pz_63 pn, iW cI cJ cZ cN cM ia ik is_ isz isa imo ili ilo ihe, dW cI cJ cZ cN cM da (is_ j36)]) (kX4_forget l D cI cJ cZ cN cM pa ga pz pn  pz_63 hM) (cwV 0 C.1.2.2.2.2 gX7_goBack_X4_forget rfl rfl rfl hdX4_forget ⟨Nat.le_of_ble_eq_true rfl, Nat.le_of_ble_eq_true rfl⟩) 6 4 rfl rfl (FrX.blk [xW cI cJ cZ cN cM xa na pa ta ba da ia rc, nW cI cJ cZ cN cM na sz_56 sa_56 mo_56 li_56 lo_56 he_56, pW cI cJ cZ cN cM pa ga pz pn, iW cI cJ cZ cN cM ia ik is_ isz isa imo ili ilo ihe, dW cI cJ cZ cN cM da (is_ j36)] [xW cI cJ cZ cN cM xa na pa ta ba da ia rc, nW cI cJ cZ cN cM na sz_56 sa_56 mo_56 li_56 lo_56 he_56, pW cI cJ cZ cN cM pa ga pz_63 pn, iW cI cJ cZ cN cM ia ik is_ isz isa imo ili ilo ihe, dW cI cJ cZ cN cM da (is_ j36)] [2] [0, 1, 3, 4] 5 rfl rfl (by decide) rfl (List.append_nil _) (List.append_nil _)) rfl rfl (Nat.le_of_ble_eq_true rfl) dX7_goBack_63 ⟨Nat.zero_le _, Nat.zero_le _⟩ ?_
      refine q_iconst C 1 dX7_goBack_66 (by decide) ?_
      have hy0 := Option.some.inj hf
      clear hf
      obtain ⟨hz1, hy1⟩ := Prod.mk.inj hy0
      clear hy0
      obtain ⟨hz2, hy2⟩ := Prod.mk.inj hy1
      clear hy1
      obtain ⟨hz3, hy3⟩ := Prod.mk.inj hy2
      clear hy2
      obtain ⟨hz4, hy4⟩ := Prod.mk.inj hy3
      clear hy3
      obtain ⟨hz5, hy5⟩ := Prod.mk.inj hy4
      clear hy4
      obtain ⟨hz6, hy6⟩ := Prod.mk.inj hy5
      clear hy5
      obtain ⟨hz7, hy7⟩ := Prod.mk.inj hy6
      clear hy6
      obtain ⟨hz8, hy8⟩ := Prod.mk.inj hy7
      clear hy7
      subst hz1
      subst hz2
      subst hz3
      subst hz4
      subst hz5
      subst hz6
      subst hz7
      subst hz8
      subst hy8
      exact hret _ _ dX7_goBack_67 rfl
    · refine q_ldc C dX7_goBack_24 lkX7_goBack_4 ?_
      have hy0 := Option.some.inj hf
      clear hf
      obtain ⟨hz1, hy1⟩ := Prod.mk.inj hy0
      clear hy0
      obtain ⟨hz2, hy2⟩ := Prod.mk.inj hy1
      clear hy1
      obtain ⟨hz3, hy3⟩ := Prod.mk.inj hy2
      clear hy2
      obtain ⟨hz4, hy4⟩ := Prod.mk.inj hy3
      clear hy3
      obtain ⟨hz5, hy5⟩ := Prod.mk.inj hy4
      clear hy4
      obtain ⟨hz6, hy6⟩ := Prod.mk.inj hy5
      clear hy5
      obtain ⟨hz7, hy7⟩ := Prod.mk.inj hy6
      clear hy6
      obtain ⟨hz8, hy8⟩ := Prod.mk.inj hy7
      clear hy7
      subst hz1
      subst hz2
      subst hz3
      subst hz4
      subst hz5
      subst hz6
      subst hz7
      subst hz8
      subst hy8
      exact hret _ _ dX7_goBack_26 rfl
  · refine q_ldc C dX7_goBack_9 lkX7_goBack_1 ?_
    have hy0 := Option.some.inj hf
    clear hf
    obtain ⟨hz1, hy1⟩ := Prod.mk.inj hy0
    clear hy0
    obtain ⟨hz2, hy2⟩ := Prod.mk.inj hy1
    clear hy1
    obtain ⟨hz3, hy3⟩ := Prod.mk.inj hy2
    clear hy2
    obtain ⟨hz4, hy4⟩ := Prod.mk.inj hy3
    clear hy3
    obtain ⟨hz5, hy5⟩ := Prod.mk.inj hy4
    clear hy4
    obtain ⟨hz6, hy6⟩ := Prod.mk.inj hy5
    clear hy5
    obtain ⟨hz7, hy7⟩ := Prod.mk.inj hy6
    clear hy6
    obtain ⟨hz8, hy8⟩ := Prod.mk.inj hy7
    clear hy7
    subst hz1
    subst hz2
    subst hz3
    subst hz4
    subst hz5
    subst hz6
    subst hz7
    subst hz8
    subst hy8
    exact hret _ _ dX7_goBack_11 rfl
