theorem lkX7_salt_1 : Cond.constant RX7 191 (65535) ∈ wsX7_salt := List.mem_of_getElem? (i := 1) rfl
theorem lkX7_salt_2 : Cond.constant RX7 105 (-1000000002) ∈ wsX7_salt := List.mem_of_getElem? (i := 2) rfl
theorem lkX7_salt_3 : Cond.fieldLink RX7 19 "TwiceHeard" "past" "LTwiceHeard$Past;" ∈ wsX7_salt := List.mem_of_getElem? (i := 3) rfl
theorem lkX7_salt_4 : Cond.fieldLink RX7 10 "TwiceHeard" "net" "LTwiceHeard$Net;" ∈ wsX7_salt := List.mem_of_getElem? (i := 4) rfl
theorem lkX7_salt_5 : Cond.fieldLink RX7 74 "TwiceHeard$Net" "salt" "I" ∈ wsX7_salt := List.mem_of_getElem? (i := 5) rfl
theorem inX7_salt_X7 : ∀ w ∈ wsX70, w ∈ wsX7_salt := fun w h => List.mem_cons_of_mem _ (List.mem_append_left _ (List.mem_append_left _ (List.mem_append_right _ h)))
theorem inX7_salt_X3 : ∀ w ∈ wsX30, w ∈ wsX7_salt := fun w h => List.mem_cons_of_mem _ (List.mem_append_left _ (List.mem_append_right _ h))
theorem inX7_salt_X4 : ∀ w ∈ wsX40, w ∈ wsX7_salt := fun w h => List.mem_cons_of_mem _ (List.mem_append_right _ h)
abbrev rmX7_salt : Room := { frames := 3, cells := 0, slots := 0, locals := 82 }
theorem hdX7_salt : yX7_salt.cls = RX7 ∧ yX7_salt.cls ≠ "java/lang/invoke/MethodHandle" ∧ yX7_salt.cls ≠ "java/lang/invoke/VarHandle" ∧ (parseMethodDescriptor yX7_salt.desc).map (fun d => d.parameters.length) = some 1 := by decide +kernel
def fX7_salt (sz : Int32) (sa : Int32) (mo : Int32) (li : (Nat → Int32)) (lo : (Nat → Int32)) (he : (Nat → Int32)) (pz : Int32) (pn : Int32) (gsz : (Nat → Int32)) (gsa : (Nat → Int32)) (gmo : (Nat → Int32)) (gli : (Nat → Nat → Int32)) (glo : (Nat → Nat → Int32)) (ghe : (Nat → Nat → Int32)) (v1 : Int32) : Option (Int32 × Int32 × Int32 × Int32 × (Nat → Int32) × (Nat → Int32) × (Nat → Int32) × (Nat → Nat → Int32) × (Nat → Nat → Int32) × (Nat → Nat → Int32)) :=
  (fX7_within v1 (0 : Int32) (65535 : Int32)).bind fun x4 =>
  if x4 = 0 then (
  some ((-1000000002 : Int32), sa, pz, pn, gsz, gsa, gmo, gli, glo, ghe)) else (
  bd8 (fX4_remember pz pn gsz gsa gmo gli glo ghe sz sa mo li lo he) fun pz_21 pn_21 gsz_21 gsa_21 gmo_21 gli_21 glo_21 ghe_21 =>
  some (sa, v1, pz_21, pn_21, gsz_21, gsa_21, gmo_21, gli_21, glo_21, ghe_21))
set_option maxRecDepth 100000 in
set_option maxHeartbeats 4000000 in
theorem kX7_salt (l : Launch) (D : va_G) (cI cJ cZ cN cM : ClassId) (xa : Nat → Nat) (na : Nat → Nat) (pa : Nat → Nat) (ta : Nat → Nat) (ba : Nat → Nat) (da : Nat → Nat) (ia : Nat → Nat) (ga : Nat → Nat) (rc : (Nat → Int64)) (sz : Int32) (sa : Int32) (mo : Int32) (li : (Nat → Int32)) (lo : (Nat → Int32)) (he : (Nat → Int32)) (pz : Int32) (pn : Int32) (gsz : (Nat → Int32)) (gsa : (Nat → Int32)) (gmo : (Nat → Int32)) (gli : (Nat → Nat → Int32)) (glo : (Nat → Nat → Int32)) (ghe : (Nat → Nat → Int32)) (v1 : Int32) (r : Int32) (sa_o : Int32) (pz_o : Int32) (pn_o : Int32) (gsz_o : (Nat → Int32)) (gsa_o : (Nat → Int32)) (gmo_o : (Nat → Int32)) (gli_o : (Nat → Nat → Int32)) (glo_o : (Nat → Nat → Int32)) (ghe_o : (Nat → Nat → Int32)) (hf : fX7_salt sz sa mo li lo he pz pn gsz gsa gmo gli glo ghe v1 = some (r, sa_o, pz_o, pn_o, gsz_o, gsa_o, gmo_o, gli_o, glo_o, ghe_o)) : MetI l yX7_salt wsX7_salt rmX7_salt D (TYL cI cJ cZ cN cM) [.ref (xa 0), .int v1] (List.flatten [xW cI cJ cZ cN cM xa na pa ta ba da ia rc, nW cI cJ cZ cN cM na sz sa mo li lo he, pW cI cJ cZ cN cM pa ga pz pn, gW cI cJ cZ cN cM ga gsz gsa gmo gli glo ghe]) (List.flatten [xW cI cJ cZ cN cM xa na pa ta ba da ia rc, nW cI cJ cZ cN cM na sz sa_o mo li lo he, pW cI cJ cZ cN cM pa ga pz_o pn_o, gW cI cJ cZ cN cM ga gsz_o gsa_o gmo_o gli_o glo_o ghe_o]) r := by
  refine MetI.mk (cc := cX7_salt) (maxL := 3) (own := RX7) (ty := .int) [(0, .ref (xa 0)), (1, .int v1)] (by decide +kernel) rfl rfl (Nat.le_of_ble_eq_true rfl) rfl ?_
  intro p e s m args below meth c A Q C hret
  unfold fX7_salt at hf
  refine q_iload_n C 1 dX7_salt_0 rfl ?_
  refine q_iconst C 0 dX7_salt_1 (by decide) ?_
  refine q_ldc C dX7_salt_2 lkX7_salt_1 ?_
  obtain ⟨x4, hM, hf⟩ := bd_e hf
  refine q_callSI C (List.flatten [xW cI cJ cZ cN cM xa na pa ta ba da ia rc, nW cI cJ cZ cN cM na sz sa mo li lo he, pW cI cJ cZ cN cM pa ga pz pn, gW cI cJ cZ cN cM ga gsz gsa gmo gli glo ghe]) (kX7_within l D cI cJ cZ cN cM   v1 (0 : Int32) (65535 : Int32) x4 hM) (va_cwS 3 C.1.2.2.2.2 gX7_salt_X7_within rfl rfl rfl hdX7_within ⟨Nat.le_of_ble_eq_true rfl, Nat.le_of_ble_eq_true rfl⟩) FrX.none rfl rfl (Nat.le_of_ble_eq_true rfl) dX7_salt_4 ⟨Nat.zero_le _, Nat.zero_le _⟩ ?_
  refine q_if_ne C 13 dX7_salt_7 (by decide) hf (fun hf => ?_) (fun hf => ?_)
  · refine q_aload_n C 0 dX7_salt_13 rfl ?_
    refine q_get C 0 1 dX7_salt_14 rfl rfl (Nat.le_of_ble_eq_true rfl) inX7_salt_X7 lkX7_salt_3 rfl rfl ?_
    refine q_aload_n C 0 dX7_salt_17 rfl ?_
    refine q_get C 0 0 dX7_salt_18 rfl rfl (Nat.le_of_ble_eq_true rfl) inX7_salt_X7 lkX7_salt_4 rfl rfl ?_
    obtain ⟨pz_21, pn_21, gsz_21, gsa_21, gmo_21, gli_21, glo_21, ghe_21, hM, hf⟩ := bd8_e hf
    refine q_callVV C (List.flatten [xW cI cJ cZ cN cM xa na pa ta ba da ia rc, nW cI cJ cZ cN cM na sz sa mo li lo he, pW cI cJ cZ cN cM pa ga pz_21 pn_21, gW cI cJ cZ cN cM ga gsz_21 gsa_21 gmo_21 gli_21 glo_21 ghe_21]) (kX4_remember l D cI cJ cZ cN cM pa ga na pz pn gsz gsa gmo gli glo ghe sz sa mo li lo he  pz_21 pn_21 gsz_21 gsa_21 gmo_21 gli_21 glo_21 ghe_21 hM) (cwV 1 C.1.2.2.2.2 gX7_salt_X4_remember rfl rfl rfl hdX4_remember ⟨Nat.le_of_ble_eq_true rfl, Nat.le_of_ble_eq_true rfl⟩) 6 4 rfl rfl (FrX.blk [xW cI cJ cZ cN cM xa na pa ta ba da ia rc, nW cI cJ cZ cN cM na sz sa mo li lo he, pW cI cJ cZ cN cM pa ga pz pn, gW cI cJ cZ cN cM ga gsz gsa gmo gli glo ghe] [xW cI cJ cZ cN cM xa na pa ta ba da ia rc, nW cI cJ cZ cN cM na sz sa mo li lo he, pW cI cJ cZ cN cM pa ga pz_21 pn_21, gW cI cJ cZ cN cM ga gsz_21 gsa_21 gmo_21 gli_21 glo_21 ghe_21] [2, 3, 1] [0] 4 rfl rfl (by decide) rfl rfl rfl) rfl rfl (Nat.le_of_ble_eq_true rfl) dX7_salt_21 ⟨Nat.zero_le _, Nat.zero_le _⟩ ?_
    refine q_aload_n C 0 dX7_salt_24 rfl ?_
    refine q_get C 0 0 dX7_salt_25 rfl rfl (Nat.le_of_ble_eq_true rfl) inX7_salt_X7 lkX7_salt_4 rfl rfl ?_
    refine q_get C 2 1 dX7_salt_28 rfl rfl (Nat.le_of_ble_eq_true rfl) inX7_salt_X3 lkX7_salt_5 rfl rfl ?_
    refine q_istore_n C [(2, .int sa), (0, .ref (xa 0)), (1, .int v1)] dX7_salt_31 (by decide) rfl ?_
    refine q_aload_n C 1 dX7_salt_32 rfl ?_
    refine q_get C 0 0 dX7_salt_33 rfl rfl (Nat.le_of_ble_eq_true rfl) inX7_salt_X7 lkX7_salt_4 rfl rfl ?_
    refine q_iload_n C 2 dX7_salt_36 rfl ?_
    refine q_put C 2 1 (List.flatten [xW cI cJ cZ cN cM xa na pa ta ba da ia rc, nW cI cJ cZ cN cM na sz v1 mo li lo he, pW cI cJ cZ cN cM pa ga pz_21 pn_21, gW cI cJ cZ cN cM ga gsz_21 gsa_21 gmo_21 gli_21 glo_21 ghe_21]) dX7_salt_37 rfl rfl (Nat.le_of_ble_eq_true rfl) inX7_salt_X3 tyX3 tyX3_ok nmX3 lkX7_salt_5 rfl rfl rfl rfl (Nat.le_of_ble_eq_true rfl) rfl ?_
    refine q_iload_n C 0 dX7_salt_40 rfl ?_
    have hy0 := Option.some.inj hf
    clear hf
    obtain ⟨hz1, hy1⟩ := Prod.mk.inj hy0
    clear hy0
    obtain ⟨hz2, hy2⟩ := Prod.mk.inj hy1
    clear hy1
    obtain ⟨hz3, hy3⟩ := Prod.mk.inj hy2
    clear hy2
    obtain ⟨hz4, hy4⟩ := Prod.mk.inj hy3
    clear hy3
    obtain ⟨hz5, hy5⟩ := Prod.mk.inj hy4
    clear hy4
    obtain ⟨hz6, hy6⟩ := Prod.mk.inj hy5
    clear hy5
    obtain ⟨hz7, hy7⟩ := Prod.mk.inj hy6
    clear hy6
    obtain ⟨hz8, hy8⟩ := Prod.mk.inj hy7
    clear hy7
    obtain ⟨hz9, hy9⟩ := Prod.mk.inj hy8
    clear hy8
    subst hz1
    subst hz2
    subst hz3
    subst hz4
    subst hz5
    subst hz6
    subst hz7
    subst hz8
    subst hz9
    subst hy9
    exact hret _ _ dX7_salt_41 rfl
  · refine q_ldc C dX7_salt_10 lkX7_salt_2 ?_
    have hy0 := Option.some.inj hf
    clear hf
    obtain ⟨hz1, hy1⟩ := Prod.mk.inj hy0
    clear hy0
    obtain ⟨hz2, hy2⟩ := Prod.mk.inj hy1
    clear hy1
    obtain ⟨hz3, hy3⟩ := Prod.mk.inj hy2
    clear hy2
    obtain ⟨hz4, hy4⟩ := Prod.mk.inj hy3
    clear hy3
    obtain ⟨hz5, hy5⟩ := Prod.mk.inj hy4
    clear hy4
    obtain ⟨hz6, hy6⟩ := Prod.mk.inj hy5
    clear hy5
    obtain ⟨hz7, hy7⟩ := Prod.mk.inj hy6
    clear hy6
    obtain ⟨hz8, hy8⟩ := Prod.mk.inj hy7
    clear hy7
    obtain ⟨hz9, hy9⟩ := Prod.mk.inj hy8
    clear hy8
    subst hz1
    subst hz2
    subst hz3
    subst hz4
    subst hz5
    subst hz6
    subst hz7
    subst hz8
    subst hz9
    subst hy9
    exact hret _ _ dX7_salt_12 rfl

theorem lkX7_mode_1 : Cond.constant RX7 105 (-1000000002) ∈ wsX7_mode := List.mem_of_getElem? (i := 1) rfl
theorem lkX7_mode_2 : Cond.fieldLink RX7 19 "TwiceHeard" "past" "LTwiceHeard$Past;" ∈ wsX7_mode := List.mem_of_getElem? (i := 2) rfl
theorem lkX7_mode_3 : Cond.fieldLink RX7 10 "TwiceHeard" "net" "LTwiceHeard$Net;" ∈ wsX7_mode := List.mem_of_getElem? (i := 3) rfl
theorem lkX7_mode_4 : Cond.fieldLink RX7 77 "TwiceHeard$Net" "mode" "I" ∈ wsX7_mode := List.mem_of_getElem? (i := 4) rfl
theorem inX7_mode_X7 : ∀ w ∈ wsX70, w ∈ wsX7_mode := fun w h => List.mem_cons_of_mem _ (List.mem_append_left _ (List.mem_append_left _ (List.mem_append_right _ h)))
theorem inX7_mode_X3 : ∀ w ∈ wsX30, w ∈ wsX7_mode := fun w h => List.mem_cons_of_mem _ (List.mem_append_left _ (List.mem_append_right _ h))
theorem inX7_mode_X4 : ∀ w ∈ wsX40, w ∈ wsX7_mode := fun w h => List.mem_cons_of_mem _ (List.mem_append_right _ h)
abbrev rmX7_mode : Room := { frames := 3, cells := 0, slots := 0, locals := 82 }
theorem hdX7_mode : yX7_mode.cls = RX7 ∧ yX7_mode.cls ≠ "java/lang/invoke/MethodHandle" ∧ yX7_mode.cls ≠ "java/lang/invoke/VarHandle" ∧ (parseMethodDescriptor yX7_mode.desc).map (fun d => d.parameters.length) = some 1 := by decide +kernel
def fX7_mode (sz : Int32) (sa : Int32) (mo : Int32) (li : (Nat → Int32)) (lo : (Nat → Int32)) (he : (Nat → Int32)) (pz : Int32) (pn : Int32) (gsz : (Nat → Int32)) (gsa : (Nat → Int32)) (gmo : (Nat → Int32)) (gli : (Nat → Nat → Int32)) (glo : (Nat → Nat → Int32)) (ghe : (Nat → Nat → Int32)) (v1 : Int32) : Option (Int32 × Int32 × Int32 × Int32 × (Nat → Int32) × (Nat → Int32) × (Nat → Int32) × (Nat → Nat → Int32) × (Nat → Nat → Int32) × (Nat → Nat → Int32)) :=
  (fX7_within v1 (0 : Int32) (1 : Int32)).bind fun x3 =>
  if x3 = 0 then (
  some ((-1000000002 : Int32), mo, pz, pn, gsz, gsa, gmo, gli, glo, ghe)) else (
  bd8 (fX4_remember pz pn gsz gsa gmo gli glo ghe sz sa mo li lo he) fun pz_20 pn_20 gsz_20 gsa_20 gmo_20 gli_20 glo_20 ghe_20 =>
  some (mo, v1, pz_20, pn_20, gsz_20, gsa_20, gmo_20, gli_20, glo_20, ghe_20))
set_option maxRecDepth 100000 in
set_option maxHeartbeats 4000000 in
theorem kX7_mode (l : Launch) (D : va_G) (cI cJ cZ cN cM : ClassId) (xa : Nat → Nat) (na : Nat → Nat) (pa : Nat → Nat) (ta : Nat → Nat) (ba : Nat → Nat) (da : Nat → Nat) (ia : Nat → Nat) (ga : Nat → Nat) (rc : (Nat → Int64)) (sz : Int32) (sa : Int32) (mo : Int32) (li : (Nat → Int32)) (lo : (Nat → Int32)) (he : (Nat → Int32)) (pz : Int32) (pn : Int32) (gsz : (Nat → Int32)) (gsa : (Nat → Int32)) (gmo : (Nat → Int32)) (gli : (Nat → Nat → Int32)) (glo : (Nat → Nat → Int32)) (ghe : (Nat → Nat → Int32)) (v1 : Int32) (r : Int32) (mo_o : Int32) (pz_o : Int32) (pn_o : Int32) (gsz_o : (Nat → Int32)) (gsa_o : (Nat → Int32)) (gmo_o : (Nat → Int32)) (gli_o : (Nat → Nat → Int32)) (glo_o : (Nat → Nat → Int32)) (ghe_o : (Nat → Nat → Int32)) (hf : fX7_mode sz sa mo li lo he pz pn gsz gsa gmo gli glo ghe v1 = some (r, mo_o, pz_o, pn_o, gsz_o, gsa_o, gmo_o, gli_o, glo_o, ghe_o)) : MetI l yX7_mode wsX7_mode rmX7_mode D (TYL cI cJ cZ cN cM) [.ref (xa 0), .int v1] (List.flatten [xW cI cJ cZ cN cM xa na pa ta ba da ia rc, nW cI cJ cZ cN cM na sz sa mo li lo he, pW cI cJ cZ cN cM pa ga pz pn, gW cI cJ cZ cN cM ga gsz gsa gmo gli glo ghe]) (List.flatten [xW cI cJ cZ cN cM xa na pa ta ba da ia rc, nW cI cJ cZ cN cM na sz sa mo_o li lo he, pW cI cJ cZ cN cM pa ga pz_o pn_o, gW cI cJ cZ cN cM ga gsz_o gsa_o gmo_o gli_o glo_o ghe_o]) r := by
  refine MetI.mk (cc := cX7_mode) (maxL := 3) (own := RX7) (ty := .int) [(0, .ref (xa 0)), (1, .int v1)] (by decide +kernel) rfl rfl (Nat.le_of_ble_eq_true rfl) rfl ?_
  intro p e s m args below meth c A Q C hret
  unfold fX7_mode at hf
  refine q_iload_n C 1 dX7_mode_0 rfl ?_
  refine q_iconst C 0 dX7_mode_1 (by decide) ?_
  refine q_iconst C 1 dX7_mode_2 (by decide) ?_
  obtain ⟨x3, hM, hf⟩ := bd_e hf
  refine q_callSI C (List.flatten [xW cI cJ cZ cN cM xa na pa ta ba da ia rc, nW cI cJ cZ cN cM na sz sa mo li lo he, pW cI cJ cZ cN cM pa ga pz pn, gW cI cJ cZ cN cM ga gsz gsa gmo gli glo ghe]) (kX7_within l D cI cJ cZ cN cM   v1 (0 : Int32) (1 : Int32) x3 hM) (va_cwS 3 C.1.2.2.2.2 gX7_mode_X7_within rfl rfl rfl hdX7_within ⟨Nat.le_of_ble_eq_true rfl, Nat.le_of_ble_eq_true rfl⟩) FrX.none rfl rfl (Nat.le_of_ble_eq_true rfl) dX7_mode_3 ⟨Nat.zero_le _, Nat.zero_le _⟩ ?_
  refine q_if_ne C 12 dX7_mode_6 (by decide) hf (fun hf => ?_) (fun hf => ?_)
  · refine q_aload_n C 0 dX7_mode_12 rfl ?_
    refine q_get C 0 1 dX7_mode_13 rfl rfl (Nat.le_of_ble_eq_true rfl) inX7_mode_X7 lkX7_mode_2 rfl rfl ?_
    refine q_aload_n C 0 dX7_mode_16 rfl ?_
    refine q_get C 0 0 dX7_mode_17 rfl rfl (Nat.le_of_ble_eq_true rfl) inX7_mode_X7 lkX7_mode_3 rfl rfl ?_
    obtain ⟨pz_20, pn_20, gsz_20, gsa_20, gmo_20, gli_20, glo_20, ghe_20, hM, hf⟩ := bd8_e hf
    refine q_callVV C (List.flatten [xW cI cJ cZ cN cM xa na pa ta ba da ia rc, nW cI cJ cZ cN cM na sz sa mo li lo he, pW cI cJ cZ cN cM pa ga pz_20 pn_20, gW cI cJ cZ cN cM ga gsz_20 gsa_20 gmo_20 gli_20 glo_20 ghe_20]) (kX4_remember l D cI cJ cZ cN cM pa ga na pz pn gsz gsa gmo gli glo ghe sz sa mo li lo he  pz_20 pn_20 gsz_20 gsa_20 gmo_20 gli_20 glo_20 ghe_20 hM) (cwV 1 C.1.2.2.2.2 gX7_mode_X4_remember rfl rfl rfl hdX4_remember ⟨Nat.le_of_ble_eq_true rfl, Nat.le_of_ble_eq_true rfl⟩) 6 4 rfl rfl (FrX.blk [xW cI cJ cZ cN cM xa na pa ta ba da ia rc, nW cI cJ cZ cN cM na sz sa mo li lo he, pW cI cJ cZ cN cM pa ga pz pn, gW cI cJ cZ cN cM ga gsz gsa gmo gli glo ghe] [xW cI cJ cZ cN cM xa na pa ta ba da ia rc, nW cI cJ cZ cN cM na sz sa mo li lo he, pW cI cJ cZ cN cM pa ga pz_20 pn_20, gW cI cJ cZ cN cM ga gsz_20 gsa_20 gmo_20 gli_20 glo_20 ghe_20] [2, 3, 1] [0] 4 rfl rfl (by decide) rfl rfl rfl) rfl rfl (Nat.le_of_ble_eq_true rfl) dX7_mode_20 ⟨Nat.zero_le _, Nat.zero_le _⟩ ?_
    refine q_aload_n C 0 dX7_mode_23 rfl ?_
    refine q_get C 0 0 dX7_mode_24 rfl rfl (Nat.le_of_ble_eq_true rfl) inX7_mode_X7 lkX7_mode_3 rfl rfl ?_
    refine q_get C 2 2 dX7_mode_27 rfl rfl (Nat.le_of_ble_eq_true rfl) inX7_mode_X3 lkX7_mode_4 rfl rfl ?_
    refine q_istore_n C [(2, .int mo), (0, .ref (xa 0)), (1, .int v1)] dX7_mode_30 (by decide) rfl ?_
    refine q_aload_n C 1 dX7_mode_31 rfl ?_
    refine q_get C 0 0 dX7_mode_32 rfl rfl (Nat.le_of_ble_eq_true rfl) inX7_mode_X7 lkX7_mode_3 rfl rfl ?_
    refine q_iload_n C 2 dX7_mode_35 rfl ?_
    refine q_put C 2 2 (List.flatten [xW cI cJ cZ cN cM xa na pa ta ba da ia rc, nW cI cJ cZ cN cM na sz sa v1 li lo he, pW cI cJ cZ cN cM pa ga pz_20 pn_20, gW cI cJ cZ cN cM ga gsz_20 gsa_20 gmo_20 gli_20 glo_20 ghe_20]) dX7_mode_36 rfl rfl (Nat.le_of_ble_eq_true rfl) inX7_mode_X3 tyX3 tyX3_ok nmX3 lkX7_mode_4 rfl rfl rfl rfl (Nat.le_of_ble_eq_true rfl) rfl ?_
    refine q_iload_n C 0 dX7_mode_39 rfl ?_
    have hy0 := Option.some.inj hf
    clear hf
    obtain ⟨hz1, hy1⟩ := Prod.mk.inj hy0
    clear hy0
    obtain ⟨hz2, hy2⟩ := Prod.mk.inj hy1
    clear hy1
    obtain ⟨hz3, hy3⟩ := Prod.mk.inj hy2
    clear hy2
    obtain ⟨hz4, hy4⟩ := Prod.mk.inj hy3
    clear hy3
    obtain ⟨hz5, hy5⟩ := Prod.mk.inj hy4
    clear hy4
    obtain ⟨hz6, hy6⟩ := Prod.mk.inj hy5
    clear hy5
    obtain ⟨hz7, hy7⟩ := Prod.mk.inj hy6
    clear hy6
    obtain ⟨hz8, hy8⟩ := Prod.mk.inj hy7
    clear hy7
    obtain ⟨hz9, hy9⟩ := Prod.mk.inj hy8
    clear hy8
    subst hz1
    subst hz2
    subst hz3
    subst hz4
    subst hz5
    subst hz6
    subst hz7
    subst hz8
    subst hz9
    subst hy9
    exact hret _ _ dX7_mode_40 rfl
  · refine q_ldc C dX7_mode_9 lkX7_mode_1 ?_
    have hy0 := Option.some.inj hf
    clear hf
    obtain ⟨hz1, hy1⟩ := Prod.mk.inj hy0
    clear hy0
    obtain ⟨hz2, hy2⟩ := Prod.mk.inj hy1
    clear hy1
    obtain ⟨hz3, hy3⟩ := Prod.mk.inj hy2
    clear hy2
    obtain ⟨hz4, hy4⟩ := Prod.mk.inj hy3
    clear hy3
    obtain ⟨hz5, hy5⟩ := Prod.mk.inj hy4
    clear hy4
    obtain ⟨hz6, hy6⟩ := Prod.mk.inj hy5
    clear hy5
    obtain ⟨hz7, hy7⟩ := Prod.mk.inj hy6
    clear hy6
    obtain ⟨hz8, hy8⟩ := Prod.mk.inj hy7
    clear hy7
    obtain ⟨hz9, hy9⟩ := Prod.mk.inj hy8
    clear hy8
    subst hz1
    subst hz2
    subst hz3
    subst hz4
    subst hz5
    subst hz6
    subst hz7
    subst hz8
    subst hz9
    subst hy9
    exact hret _ _ dX7_mode_11 rfl

theorem lkX7_drift_1 : Cond.constant RX7 105 (-1000000002) ∈ wsX7_drift := List.mem_of_getElem? (i := 1) rfl
theorem lkX7_drift_2 : Cond.fieldLink RX7 19 "TwiceHeard" "past" "LTwiceHeard$Past;" ∈ wsX7_drift := List.mem_of_getElem? (i := 2) rfl
theorem lkX7_drift_3 : Cond.fieldLink RX7 10 "TwiceHeard" "net" "LTwiceHeard$Net;" ∈ wsX7_drift := List.mem_of_getElem? (i := 3) rfl
theorem lkX7_drift_4 : Cond.fieldLink RX7 40 "TwiceHeard" "draws" "LTwiceHeard$Draws;" ∈ wsX7_drift := List.mem_of_getElem? (i := 4) rfl
theorem lkX7_drift_5 : Cond.fieldLink RX7 59 "TwiceHeard$Net" "size" "I" ∈ wsX7_drift := List.mem_of_getElem? (i := 5) rfl
theorem lkX7_drift_6 : Cond.fieldLink RX7 26 "TwiceHeard" "telling" "LTwiceHeard$Telling;" ∈ wsX7_drift := List.mem_of_getElem? (i := 6) rfl
theorem inX7_drift_X7 : ∀ w ∈ wsX70, w ∈ wsX7_drift := fun w h => List.mem_cons_of_mem _ (List.mem_append_left _ (List.mem_append_left _ (List.mem_append_left _ (List.mem_append_left _ (List.mem_append_right _ h)))))
theorem inX7_drift_X3 : ∀ w ∈ wsX30, w ∈ wsX7_drift := fun w h => List.mem_cons_of_mem _ (List.mem_append_left _ (List.mem_append_left _ (List.mem_append_left _ (List.mem_append_right _ h))))
theorem inX7_drift_X4 : ∀ w ∈ wsX40, w ∈ wsX7_drift := fun w h => List.mem_cons_of_mem _ (List.mem_append_left _ (List.mem_append_left _ (List.mem_append_right _ h)))
theorem inX7_drift_X1 : ∀ w ∈ wsX10, w ∈ wsX7_drift := fun w h => List.mem_cons_of_mem _ (List.mem_append_left _ (List.mem_append_right _ h))
theorem inX7_drift_X6 : ∀ w ∈ wsX60, w ∈ wsX7_drift := fun w h => List.mem_cons_of_mem _ (List.mem_append_right _ h)
abbrev rmX7_drift : Room := { frames := 4, cells := 0, slots := 0, locals := 91 }
theorem hdX7_drift : yX7_drift.cls = RX7 ∧ yX7_drift.cls ≠ "java/lang/invoke/MethodHandle" ∧ yX7_drift.cls ≠ "java/lang/invoke/VarHandle" ∧ (parseMethodDescriptor yX7_drift.desc).map (fun d => d.parameters.length) = some 1 := by decide +kernel
def fX7_drift_L15 (sz : Int32) (sa : Int32) (mo : Int32) (li : (Nat → Int32)) (lo : (Nat → Int32)) (v1 : Int32) : Nat → Int32 → (Nat → Int32) → Int32 → Int32 → (Nat → Int32) → (Nat → Int32) → (Nat → Int32) → (Nat → Nat → Int32) → (Nat → Nat → Int32) → (Nat → Nat → Int32) → Int32 → Option ((Nat → Int32) × Int32 × Int32 × (Nat → Int32) × (Nat → Int32) × (Nat → Int32) × (Nat → Nat → Int32) × (Nat → Nat → Int32) × (Nat → Nat → Int32) × Int32)
  | 0, _, _, _, _, _, _, _, _, _, _, _ => none
  | n + 1, v2, he, pz, pn, gsz, gsa, gmo, gli, glo, ghe, sd =>
  if v1 ≤ v2 then (
  some (he, pz, pn, gsz, gsa, gmo, gli, glo, ghe, sd)) else (
  bd8 (fX4_remember pz pn gsz gsa gmo gli glo ghe sz sa mo li lo he) fun pz_28 pn_28 gsz_28 gsa_28 gmo_28 gli_28 glo_28 ghe_28 =>
  bd2 (fX1_next sd sz) fun x42 sd_42 =>
  bd2 (fX1_next sd_42 (16 : Int32)) fun x52 sd_52 =>
  (fX3_turnItem he x42 x52).bind fun he_64 =>
  fX7_drift_L15 sz sa mo li lo v1 n (v2 + 1) he_64 pz_28 pn_28 gsz_28 gsa_28 gmo_28 gli_28 glo_28 ghe_28 sd_52)
def fX7_drift (sz : Int32) (sa : Int32) (mo : Int32) (li : (Nat → Int32)) (lo : (Nat → Int32)) (he : (Nat → Int32)) (pz : Int32) (pn : Int32) (gsz : (Nat → Int32)) (gsa : (Nat → Int32)) (gmo : (Nat → Int32)) (gli : (Nat → Nat → Int32)) (glo : (Nat → Nat → Int32)) (ghe : (Nat → Nat → Int32)) (sd : Int32) (ri : (Nat → Int32)) (rs : (Nat → Int32)) (gr : Int32) (fm : (Nat → Int32)) (tt : (Nat → Int32)) (co : (Nat → Int32)) (le : Int32) (wa : (Nat → Int32)) (ar : (Nat → Int32)) (v1 : Int32) : Option (Int32 × (Nat → Int32) × Int32 × Int32 × (Nat → Int32) × (Nat → Int32) × (Nat → Int32) × (Nat → Nat → Int32) × (Nat → Nat → Int32) × (Nat → Nat → Int32) × Int32 × (Nat → Int32) × (Nat → Int32) × Int32 × (Nat → Int32) × (Nat → Int32) × (Nat → Int32) × Int32 × (Nat → Int32) × (Nat → Int32)) :=
  (fX7_within v1 (1 : Int32) (12 : Int32)).bind fun x4 =>
  if x4 = 0 then (
  some ((-1000000002 : Int32), he, pz, pn, gsz, gsa, gmo, gli, glo, ghe, sd, ri, rs, gr, fm, tt, co, le, wa, ar)) else (
  bd10 (fX7_drift_L15 sz sa mo li lo v1 300 (0 : Int32) he pz pn gsz gsa gmo gli glo ghe sd) fun he_15 pz_15 pn_15 gsz_15 gsa_15 gmo_15 gli_15 glo_15 ghe_15 sd_15 =>
  bd9 (fX6_trace ri rs gr fm tt co le wa ar sz mo li lo) fun ri_81 rs_81 gr_81 fm_81 tt_81 co_81 le_81 wa_81 ar_81 =>
  (fX6_trueCount ri_81 sz he_15).bind fun x92 =>
  some (x92, he_15, pz_15, pn_15, gsz_15, gsa_15, gmo_15, gli_15, glo_15, ghe_15, sd_15, ri_81, rs_81, gr_81, fm_81, tt_81, co_81, le_81, wa_81, ar_81))
set_option maxRecDepth 100000 in
set_option maxHeartbeats 4000000 in
theorem wX7_drift_L15 {p : Program} {l : Launch} {e : Env} {s : State} {m : MethodId} {args : Array Value} {below : List Frame} {meth : Method} {c : Code} {Q : State → Prop} {D : va_G} {A : Nat → Prop} {cI cJ cZ cN cM : ClassId} (C : Cx p s m args c cX7_drift 5 RX7 wsX7_drift D (TYL cI cJ cZ cN cM) A) (xa : Nat → Nat) (na : Nat → Nat) (pa : Nat → Nat) (ta : Nat → Nat) (ba : Nat → Nat) (da : Nat → Nat) (ia : Nat → Nat) (ga : Nat → Nat) (rc : (Nat → Int64)) (sz : Int32) (sa : Int32) (mo : Int32) (li : (Nat → Int32)) (lo : (Nat → Int32)) (ri : (Nat → Int32)) (rs : (Nat → Int32)) (gr : Int32) (fm : (Nat → Int32)) (tt : (Nat → Int32)) (co : (Nat → Int32)) (le : Int32) (wa : (Nat → Int32)) (ar : (Nat → Int32)) (hd : (Nat → Int64)) (v1 : Int32) (he_o : (Nat → Int32)) (pz_o : Int32) (pn_o : Int32) (gsz_o : (Nat → Int32)) (gsa_o : (Nat → Int32)) (gmo_o : (Nat → Int32)) (gli_o : (Nat → Nat → Int32)) (glo_o : (Nat → Nat → Int32)) (ghe_o : (Nat → Nat → Int32)) (sd_o : Int32) (kk : WW p l e rmX7_drift s m args below meth c Q D A 5 0 0 (List.flatten [xW cI cJ cZ cN cM xa na pa ta ba da ia rc, nW cI cJ cZ cN cM na sz sa mo li lo he_o, pW cI cJ cZ cN cM pa ga pz_o pn_o, gW cI cJ cZ cN cM ga gsz_o gsa_o gmo_o gli_o glo_o ghe_o, dW cI cJ cZ cN cM da sd_o, tW cI cJ cZ cN cM ta ri rs gr fm tt co le wa ar hd]) [(0, .ref (xa 0))] 73 []) : ∀ (n : Nat) (v2 : Int32) (he : (Nat → Int32)) (pz : Int32) (pn : Int32) (gsz : (Nat → Int32)) (gsa : (Nat → Int32)) (gmo : (Nat → Int32)) (gli : (Nat → Nat → Int32)) (glo : (Nat → Nat → Int32)) (ghe : (Nat → Nat → Int32)) (sd : Int32), fX7_drift_L15 sz sa mo li lo v1 n v2 he pz pn gsz gsa gmo gli glo ghe sd = some (he_o, pz_o, pn_o, gsz_o, gsa_o, gmo_o, gli_o, glo_o, ghe_o, sd_o) → WW p l e rmX7_drift s m args below meth c Q D A 5 0 0 (List.flatten [xW cI cJ cZ cN cM xa na pa ta ba da ia rc, nW cI cJ cZ cN cM na sz sa mo li lo he, pW cI cJ cZ cN cM pa ga pz pn, gW cI cJ cZ cN cM ga gsz gsa gmo gli glo ghe, dW cI cJ cZ cN cM da sd, tW cI cJ cZ cN cM ta ri rs gr fm tt co le wa ar hd]) [(0, .ref (xa 0)), (1, .int v1), (2, .int v2)] 15 [] := by
  intro n
  induction n with
  | zero =>
    intro v2 he pz pn gsz gsa gmo gli glo ghe sd hf
    rw [fX7_drift_L15] at hf
    cases hf
  | succ n ih =>
    intro v2 he pz pn gsz gsa gmo gli glo ghe sd hf
    rw [fX7_drift_L15] at hf
    refine q_iload_n C 2 dX7_drift_15 rfl ?_
    refine q_iload_n C 1 dX7_drift_16 rfl ?_
    refine q_icmp_ge C 73 dX7_drift_17 (by decide) hf (fun hf => ?_) (fun hf => ?_)
    · refine q_lv [(0, .ref (xa 0))] [0] rfl ?_
      have hy0 := Option.some.inj hf
      clear hf
      obtain ⟨hz1, hy1⟩ := Prod.mk.inj hy0
      clear hy0
      obtain ⟨hz2, hy2⟩ := Prod.mk.inj hy1
      clear hy1
      obtain ⟨hz3, hy3⟩ := Prod.mk.inj hy2
      clear hy2
      obtain ⟨hz4, hy4⟩ := Prod.mk.inj hy3
      clear hy3
      obtain ⟨hz5, hy5⟩ := Prod.mk.inj hy4
      clear hy4
      obtain ⟨hz6, hy6⟩ := Prod.mk.inj hy5
      clear hy5
      obtain ⟨hz7, hy7⟩ := Prod.mk.inj hy6
      clear hy6
      obtain ⟨hz8, hy8⟩ := Prod.mk.inj hy7
      clear hy7
      obtain ⟨hz9, hy9⟩ := Prod.mk.inj hy8
      clear hy8
      subst hz1
      subst hz2
      subst hz3
      subst hz4
      subst hz5
      subst hz6
      subst hz7
      subst hz8
      subst hz9
      subst hy9
      exact kk
    · refine q_aload_n C 0 dX7_drift_20 rfl ?_
      refine q_get C 0 1 dX7_drift_21 rfl rfl (Nat.le_of_ble_eq_true rfl) inX7_drift_X7 lkX7_drift_2 rfl rfl ?_
      refine q_aload_n C 0 dX7_drift_24 rfl ?_
      refine q_get C 0 0 dX7_drift_25 rfl rfl (Nat.le_of_ble_eq_true rfl) inX7_drift_X7 lkX7_drift_3 rfl rfl ?_
      obtain ⟨pz_28, pn_28, gsz_28, gsa_28, gmo_28, gli_28, glo_28, ghe_28, hM, hf⟩ := bd8_e hf
      refine q_callVV C (List.flatten [xW cI cJ cZ cN cM xa na pa ta ba da ia rc, nW cI cJ cZ cN cM na sz sa mo li lo he, pW cI cJ cZ cN cM pa ga pz_28 pn_28, gW cI cJ cZ cN cM ga gsz_28 gsa_28 gmo_28 gli_28 glo_28 ghe_28, dW cI cJ cZ cN cM da sd, tW cI cJ cZ cN cM ta ri rs gr fm tt co le wa ar hd]) (kX4_remember l D cI cJ cZ cN cM pa ga na pz pn gsz gsa gmo gli glo ghe sz sa mo li lo he  pz_28 pn_28 gsz_28 gsa_28 gmo_28 gli_28 glo_28 ghe_28 hM) (cwV 1 C.1.2.2.2.2 gX7_drift_X4_remember rfl rfl rfl hdX4_remember ⟨Nat.le_of_ble_eq_true rfl, Nat.le_of_ble_eq_true rfl⟩) 6 4 rfl rfl (FrX.blk [xW cI cJ cZ cN cM xa na pa ta ba da ia rc, nW cI cJ cZ cN cM na sz sa mo li lo he, pW cI cJ cZ cN cM pa ga pz pn, gW cI cJ cZ cN cM ga gsz gsa gmo gli glo ghe, dW cI cJ cZ cN cM da sd, tW cI cJ cZ cN cM ta ri rs gr fm tt co le wa ar hd] [xW cI cJ cZ cN cM xa na pa ta ba da ia rc, nW cI cJ cZ cN cM na sz sa mo li lo he, pW cI cJ cZ cN cM pa ga pz_28 pn_28, gW cI cJ cZ cN cM ga gsz_28 gsa_28 gmo_28 gli_28 glo_28 ghe_28, dW cI cJ cZ cN cM da sd, tW cI cJ cZ cN cM ta ri rs gr fm tt co le wa ar hd] [2, 3, 1] [0, 4, 5] 6 rfl rfl (by decide) rfl rfl rfl) rfl rfl (Nat.le_of_ble_eq_true rfl) dX7_drift_28 ⟨Nat.zero_le _, Nat.zero_le _⟩ ?_
      refine q_aload_n C 0 dX7_drift_31 rfl ?_
      refine q_get C 0 4 dX7_drift_32 rfl rfl (Nat.le_of_ble_eq_true rfl) inX7_drift_X7 lkX7_drift_4 rfl rfl ?_
      refine q_aload_n C 0 dX7_drift_35 rfl ?_
      refine q_get C 0 0 dX7_drift_36 rfl rfl (Nat.le_of_ble_eq_true rfl) inX7_drift_X7 lkX7_drift_3 rfl rfl ?_
      refine q_get C 2 0 dX7_drift_39 rfl rfl (Nat.le_of_ble_eq_true rfl) inX7_drift_X3 lkX7_drift_5 rfl rfl ?_
      obtain ⟨x42, sd_42, hM, hf⟩ := bd2_e hf
      refine q_callVI C (List.flatten [xW cI cJ cZ cN cM xa na pa ta ba da ia rc, nW cI cJ cZ cN cM na sz sa mo li lo he, pW cI cJ cZ cN cM pa ga pz_28 pn_28, gW cI cJ cZ cN cM ga gsz_28 gsa_28 gmo_28 gli_28 glo_28 ghe_28, dW cI cJ cZ cN cM da sd_42, tW cI cJ cZ cN cM ta ri rs gr fm tt co le wa ar hd]) (kX1_next l D cI cJ cZ cN cM da sd sz x42 sd_42 hM) (cwV 1 C.1.2.2.2.2 gX7_drift_X1_next rfl rfl rfl hdX1_next ⟨Nat.le_of_ble_eq_true rfl, Nat.le_of_ble_eq_true rfl⟩) 72 1 rfl rfl (FrX.blk [xW cI cJ cZ cN cM xa na pa ta ba da ia rc, nW cI cJ cZ cN cM na sz sa mo li lo he, pW cI cJ cZ cN cM pa ga pz_28 pn_28, gW cI cJ cZ cN cM ga gsz_28 gsa_28 gmo_28 gli_28 glo_28 ghe_28, dW cI cJ cZ cN cM da sd, tW cI cJ cZ cN cM ta ri rs gr fm tt co le wa ar hd] [xW cI cJ cZ cN cM xa na pa ta ba da ia rc, nW cI cJ cZ cN cM na sz sa mo li lo he, pW cI cJ cZ cN cM pa ga pz_28 pn_28, gW cI cJ cZ cN cM ga gsz_28 gsa_28 gmo_28 gli_28 glo_28 ghe_28, dW cI cJ cZ cN cM da sd_42, tW cI cJ cZ cN cM ta ri rs gr fm tt co le wa ar hd] [4] [0, 1, 2, 3, 5] 6 rfl rfl (by decide) rfl (List.append_nil _) (List.append_nil _)) rfl rfl (Nat.le_of_ble_eq_true rfl) dX7_drift_42 ⟨Nat.zero_le _, Nat.zero_le _⟩ ?_
      refine q_istore_n C [(3, .int x42), (0, .ref (xa 0)), (1, .int v1), (2, .int v2)] dX7_drift_45 (by decide) rfl ?_
      refine q_aload_n C 1 dX7_drift_46 rfl ?_
      refine q_get C 0 4 dX7_drift_47 rfl rfl (Nat.le_of_ble_eq_true rfl) inX7_drift_X7 lkX7_drift_4 rfl rfl ?_
      refine q_bipush C 16 dX7_drift_50 (by decide) ?_
      obtain ⟨x52, sd_52, hM, hf⟩ := bd2_e hf
      refine q_callVI C (List.flatten [xW cI cJ cZ cN cM xa na pa ta ba da ia rc, nW cI cJ cZ cN cM na sz sa mo li lo he, pW cI cJ cZ cN cM pa ga pz_28 pn_28, gW cI cJ cZ cN cM ga gsz_28 gsa_28 gmo_28 gli_28 glo_28 ghe_28, dW cI cJ cZ cN cM da sd_52, tW cI cJ cZ cN cM ta ri rs gr fm tt co le wa ar hd]) (kX1_next l D cI cJ cZ cN cM da sd_42 (16 : Int32) x52 sd_52 hM) (cwV 1 C.1.2.2.2.2 gX7_drift_X1_next rfl rfl rfl hdX1_next ⟨Nat.le_of_ble_eq_true rfl, Nat.le_of_ble_eq_true rfl⟩) 72 1 rfl rfl (FrX.blk [xW cI cJ cZ cN cM xa na pa ta ba da ia rc, nW cI cJ cZ cN cM na sz sa mo li lo he, pW cI cJ cZ cN cM pa ga pz_28 pn_28, gW cI cJ cZ cN cM ga gsz_28 gsa_28 gmo_28 gli_28 glo_28 ghe_28, dW cI cJ cZ cN cM da sd_42, tW cI cJ cZ cN cM ta ri rs gr fm tt co le wa ar hd] [xW cI cJ cZ cN cM xa na pa ta ba da ia rc, nW cI cJ cZ cN cM na sz sa mo li lo he, pW cI cJ cZ cN cM pa ga pz_28 pn_28, gW cI cJ cZ cN cM ga gsz_28 gsa_28 gmo_28 gli_28 glo_28 ghe_28, dW cI cJ cZ cN cM da sd_52, tW cI cJ cZ cN cM ta ri rs gr fm tt co le wa ar hd] [4] [0, 1, 2, 3, 5] 6 rfl rfl (by decide) rfl (List.append_nil _) (List.append_nil _)) rfl rfl (Nat.le_of_ble_eq_true rfl) dX7_drift_52 ⟨Nat.zero_le _, Nat.zero_le _⟩ ?_
      refine q_istore C [(4, .int x52), (3, .int x42), (0, .ref (xa 0)), (1, .int v1), (2, .int v2)] dX7_drift_55 (by decide) rfl ?_
      refine q_aload_n C 2 dX7_drift_57 rfl ?_
      refine q_get C 0 0 dX7_drift_58 rfl rfl (Nat.le_of_ble_eq_true rfl) inX7_drift_X7 lkX7_drift_3 rfl rfl ?_
      refine q_iload_n C 1 dX7_drift_61 rfl ?_
      refine q_iload C 0 dX7_drift_62 rfl ?_
      obtain ⟨he_64, hM, hf⟩ := bd_e hf
      refine q_callVV C (List.flatten [xW cI cJ cZ cN cM xa na pa ta ba da ia rc, nW cI cJ cZ cN cM na sz sa mo li lo he_64, pW cI cJ cZ cN cM pa ga pz_28 pn_28, gW cI cJ cZ cN cM ga gsz_28 gsa_28 gmo_28 gli_28 glo_28 ghe_28, dW cI cJ cZ cN cM da sd_52, tW cI cJ cZ cN cM ta ri rs gr fm tt co le wa ar hd]) (kX3_turnItem l D cI cJ cZ cN cM na sz sa mo li lo he x42 x52 he_64 hM) (cwV 2 C.1.2.2.2.2 gX7_drift_X3_turnItem rfl rfl rfl hdX3_turnItem ⟨Nat.le_of_ble_eq_true rfl, Nat.le_of_ble_eq_true rfl⟩) 2 3 rfl rfl (FrX.blk [xW cI cJ cZ cN cM xa na pa ta ba da ia rc, nW cI cJ cZ cN cM na sz sa mo li lo he, pW cI cJ cZ cN cM pa ga pz_28 pn_28, gW cI cJ cZ cN cM ga gsz_28 gsa_28 gmo_28 gli_28 glo_28 ghe_28, dW cI cJ cZ cN cM da sd_52, tW cI cJ cZ cN cM ta ri rs gr fm tt co le wa ar hd] [xW cI cJ cZ cN cM xa na pa ta ba da ia rc, nW cI cJ cZ cN cM na sz sa mo li lo he_64, pW cI cJ cZ cN cM pa ga pz_28 pn_28, gW cI cJ cZ cN cM ga gsz_28 gsa_28 gmo_28 gli_28 glo_28 ghe_28, dW cI cJ cZ cN cM da sd_52, tW cI cJ cZ cN cM ta ri rs gr fm tt co le wa ar hd] [1] [0, 2, 3, 4, 5] 6 rfl rfl (by decide) rfl (List.append_nil _) (List.append_nil _)) rfl rfl (Nat.le_of_ble_eq_true rfl) dX7_drift_64 ⟨Nat.zero_le _, Nat.zero_le _⟩ ?_
      refine q_iinc C (v2 + 1) 4 [(2, .int (v2 + 1)), (4, .int x52), (3, .int x42), (0, .ref (xa 0)), (1, .int v1)] dX7_drift_67 rfl rfl (by decide) rfl ?_
      refine q_goto C 15 dX7_drift_70 (by decide) ?_
      refine q_lv [(0, .ref (xa 0)), (1, .int v1), (2, .int (v2 + 1))] [3, 4, 0] rfl ?_
      exact ih _ _ _ _ _ _ _ _ _ _ _ hf
set_option maxRecDepth 100000 in
set_option maxHeartbeats 4000000 in
theorem kX7_drift (l : Launch) (D : va_G) (cI cJ cZ cN cM : ClassId) (xa : Nat → Nat) (na : Nat → Nat) (pa : Nat → Nat) (ta : Nat → Nat) (ba : Nat → Nat) (da : Nat → Nat) (ia : Nat → Nat) (ga : Nat → Nat) (rc : (Nat → Int64)) (sz : Int32) (sa : Int32) (mo : Int32) (li : (Nat → Int32)) (lo : (Nat → Int32)) (he : (Nat → Int32)) (pz : Int32) (pn : Int32) (gsz : (Nat → Int32)) (gsa : (Nat → Int32)) (gmo : (Nat → Int32)) (gli : (Nat → Nat → Int32)) (glo : (Nat → Nat → Int32)) (ghe : (Nat → Nat → Int32)) (sd : Int32) (ri : (Nat → Int32)) (rs : (Nat → Int32)) (gr : Int32) (fm : (Nat → Int32)) (tt : (Nat → Int32)) (co : (Nat → Int32)) (le : Int32) (wa : (Nat → Int32)) (ar : (Nat → Int32)) (hd : (Nat → Int64)) (v1 : Int32) (r : Int32) (he_o : (Nat → Int32)) (pz_o : Int32) (pn_o : Int32) (gsz_o : (Nat → Int32)) (gsa_o : (Nat → Int32)) (gmo_o : (Nat → Int32)) (gli_o : (Nat → Nat → Int32)) (glo_o : (Nat → Nat → Int32)) (ghe_o : (Nat → Nat → Int32)) (sd_o : Int32) (ri_o : (Nat → Int32)) (rs_o : (Nat → Int32)) (gr_o : Int32) (fm_o : (Nat → Int32)) (tt_o : (Nat → Int32)) (co_o : (Nat → Int32)) (le_o : Int32) (wa_o : (Nat → Int32)) (ar_o : (Nat → Int32)) (hf : fX7_drift sz sa mo li lo he pz pn gsz gsa gmo gli glo ghe sd ri rs gr fm tt co le wa ar v1 = some (r, he_o, pz_o, pn_o, gsz_o, gsa_o, gmo_o, gli_o, glo_o, ghe_o, sd_o, ri_o, rs_o, gr_o, fm_o, tt_o, co_o, le_o, wa_o, ar_o)) : MetI l yX7_drift wsX7_drift rmX7_drift D (TYL cI cJ cZ cN cM) [.ref (xa 0), .int v1] (List.flatten [xW cI cJ cZ cN cM xa na pa ta ba da ia rc, nW cI cJ cZ cN cM na sz sa mo li lo he, pW cI cJ cZ cN cM pa ga pz pn, gW cI cJ cZ cN cM ga gsz gsa gmo gli glo ghe, dW cI cJ cZ cN cM da sd, tW cI cJ cZ cN cM ta ri rs gr fm tt co le wa ar hd]) (List.flatten [xW cI cJ cZ cN cM xa na pa ta ba da ia rc, nW cI cJ cZ cN cM na sz sa mo li lo he_o, pW cI cJ cZ cN cM pa ga pz_o pn_o, gW cI cJ cZ cN cM ga gsz_o gsa_o gmo_o gli_o glo_o ghe_o, dW cI cJ cZ cN cM da sd_o, tW cI cJ cZ cN cM ta ri_o rs_o gr_o fm_o tt_o co_o le_o wa_o ar_o hd]) r := by
  refine MetI.mk (cc := cX7_drift) (maxL := 5) (own := RX7) (ty := .int) [(0, .ref (xa 0)), (1, .int v1)] (by decide +kernel) rfl rfl (Nat.le_of_ble_eq_true rfl) rfl ?_
  intro p e s m args below meth c A Q C hret
  unfold fX7_drift at hf
  refine q_iload_n C 1 dX7_drift_0 rfl ?_
  refine q_iconst C 1 dX7_drift_1 (by decide) ?_
  refine q_bipush C 12 dX7_drift_2 (by decide) ?_
  obtain ⟨x4, hM, hf⟩ := bd_e hf
  refine q_callSI C (List.flatten [xW cI cJ cZ cN cM xa na pa ta ba da ia rc, nW cI cJ cZ cN cM na sz sa mo li lo he, pW cI cJ cZ cN cM pa ga pz pn, gW cI cJ cZ cN cM ga gsz gsa gmo gli glo ghe, dW cI cJ cZ cN cM da sd, tW cI cJ cZ cN cM ta ri rs gr fm tt co le wa ar hd]) (kX7_within l D cI cJ cZ cN cM   v1 (1 : Int32) (12 : Int32) x4 hM) (va_cwS 3 C.1.2.2.2.2 gX7_drift_X7_within rfl rfl rfl hdX7_within ⟨Nat.le_of_ble_eq_true rfl, Nat.le_of_ble_eq_true rfl⟩) FrX.none rfl rfl (Nat.le_of_ble_eq_true rfl) dX7_drift_4 ⟨Nat.zero_le _, Nat.zero_le _⟩ ?_
  refine q_if_ne C 13 dX7_drift_7 (by decide) hf (fun hf => ?_) (fun hf => ?_)
  · refine q_iconst C 0 dX7_drift_13 (by decide) ?_
    refine q_istore_n C [(2, .int (0 : Int32)), (0, .ref (xa 0)), (1, .int v1)] dX7_drift_14 (by decide) rfl ?_
    obtain ⟨he_15, pz_15, pn_15, gsz_15, gsa_15, gmo_15, gli_15, glo_15, ghe_15, sd_15, hL, hf⟩ := bd10_e hf
    refine q_lv [(0, .ref (xa 0)), (1, .int v1), (2, .int (0 : Int32))] [1, 2, 0] rfl ?_
    refine wX7_drift_L15 C xa na pa ta ba da ia ga rc sz sa mo li lo ri rs gr fm tt co le wa ar hd v1 he_15 pz_15 pn_15 gsz_15 gsa_15 gmo_15 gli_15 glo_15 ghe_15 sd_15 ?_ 300 _ _ _ _ _ _ _ _ _ _ _ hL
    refine q_aload_n C 0 dX7_drift_73 rfl ?_
    refine q_get C 0 2 dX7_drift_74 rfl rfl (Nat.le_of_ble_eq_true rfl) inX7_drift_X7 lkX7_drift_6 rfl rfl ?_
    refine q_aload_n C 0 dX7_drift_77 rfl ?_
    refine q_get C 0 0 dX7_drift_78 rfl rfl (Nat.le_of_ble_eq_true rfl) inX7_drift_X7 lkX7_drift_3 rfl rfl ?_
    obtain ⟨ri_81, rs_81, gr_81, fm_81, tt_81, co_81, le_81, wa_81, ar_81, hM, hf⟩ := bd9_e hf
    refine q_callVV C (List.flatten [xW cI cJ cZ cN cM xa na pa ta ba da ia rc, nW cI cJ cZ cN cM na sz sa mo li lo he_15, pW cI cJ cZ cN cM pa ga pz_15 pn_15, gW cI cJ cZ cN cM ga gsz_15 gsa_15 gmo_15 gli_15 glo_15 ghe_15, dW cI cJ cZ cN cM da sd_15, tW cI cJ cZ cN cM ta ri_81 rs_81 gr_81 fm_81 tt_81 co_81 le_81 wa_81 ar_81 hd]) (kX6_trace l D cI cJ cZ cN cM ta na ri rs gr fm tt co le wa ar hd sz sa mo li lo he_15  ri_81 rs_81 gr_81 fm_81 tt_81 co_81 le_81 wa_81 ar_81 hM) (cwV 1 C.1.2.2.2.2 gX7_drift_X6_trace rfl rfl rfl hdX6_trace ⟨Nat.le_of_ble_eq_true rfl, Nat.le_of_ble_eq_true rfl⟩) 73 5 rfl rfl (FrX.blk [xW cI cJ cZ cN cM xa na pa ta ba da ia rc, nW cI cJ cZ cN cM na sz sa mo li lo he_15, pW cI cJ cZ cN cM pa ga pz_15 pn_15, gW cI cJ cZ cN cM ga gsz_15 gsa_15 gmo_15 gli_15 glo_15 ghe_15, dW cI cJ cZ cN cM da sd_15, tW cI cJ cZ cN cM ta ri rs gr fm tt co le wa ar hd] [xW cI cJ cZ cN cM xa na pa ta ba da ia rc, nW cI cJ cZ cN cM na sz sa mo li lo he_15, pW cI cJ cZ cN cM pa ga pz_15 pn_15, gW cI cJ cZ cN cM ga gsz_15 gsa_15 gmo_15 gli_15 glo_15 ghe_15, dW cI cJ cZ cN cM da sd_15, tW cI cJ cZ cN cM ta ri_81 rs_81 gr_81 fm_81 tt_81 co_81 le_81 wa_81 ar_81 hd] [5, 1] [0, 2, 3, 4] 6 rfl rfl (by decide) rfl rfl rfl) rfl rfl (Nat.le_of_ble_eq_true rfl) dX7_drift_81 ⟨Nat.zero_le _, Nat.zero_le _⟩ ?_
    refine q_aload_n C 0 dX7_drift_84 rfl ?_
    refine q_get C 0 2 dX7_drift_85 rfl rfl (Nat.le_of_ble_eq_true rfl) inX7_drift_X7 lkX7_drift_6 rfl rfl ?_
    refine q_aload_n C 0 dX7_drift_88 rfl ?_
    refine q_get C 0 0 dX7_drift_89 rfl rfl (Nat.le_of_ble_eq_true rfl) inX7_drift_X7 lkX7_drift_3 rfl rfl ?_
    obtain ⟨x92, hM, hf⟩ := bd_e hf
    refine q_callVI C (List.flatten [xW cI cJ cZ cN cM xa na pa ta ba da ia rc, nW cI cJ cZ cN cM na sz sa mo li lo he_15, pW cI cJ cZ cN cM pa ga pz_15 pn_15, gW cI cJ cZ cN cM ga gsz_15 gsa_15 gmo_15 gli_15 glo_15 ghe_15, dW cI cJ cZ cN cM da sd_15, tW cI cJ cZ cN cM ta ri_81 rs_81 gr_81 fm_81 tt_81 co_81 le_81 wa_81 ar_81 hd]) (kX6_trueCount l D cI cJ cZ cN cM ta na ri_81 rs_81 gr_81 fm_81 tt_81 co_81 le_81 wa_81 ar_81 hd sz sa mo li lo he_15  x92 hM) (cwV 1 C.1.2.2.2.2 gX7_drift_X6_trueCount rfl rfl rfl hdX6_trueCount ⟨Nat.le_of_ble_eq_true rfl, Nat.le_of_ble_eq_true rfl⟩) 73 5 rfl rfl (FrX.blk [xW cI cJ cZ cN cM xa na pa ta ba da ia rc, nW cI cJ cZ cN cM na sz sa mo li lo he_15, pW cI cJ cZ cN cM pa ga pz_15 pn_15, gW cI cJ cZ cN cM ga gsz_15 gsa_15 gmo_15 gli_15 glo_15 ghe_15, dW cI cJ cZ cN cM da sd_15, tW cI cJ cZ cN cM ta ri_81 rs_81 gr_81 fm_81 tt_81 co_81 le_81 wa_81 ar_81 hd] [xW cI cJ cZ cN cM xa na pa ta ba da ia rc, nW cI cJ cZ cN cM na sz sa mo li lo he_15, pW cI cJ cZ cN cM pa ga pz_15 pn_15, gW cI cJ cZ cN cM ga gsz_15 gsa_15 gmo_15 gli_15 glo_15 ghe_15, dW cI cJ cZ cN cM da sd_15, tW cI cJ cZ cN cM ta ri_81 rs_81 gr_81 fm_81 tt_81 co_81 le_81 wa_81 ar_81 hd] [5, 1] [0, 2, 3, 4] 6 rfl rfl (by decide) rfl rfl rfl) rfl rfl (Nat.le_of_ble_eq_true rfl) dX7_drift_92 ⟨Nat.zero_le _, Nat.zero_le _⟩ ?_
    have hy0 := Option.some.inj hf
    clear hf
    obtain ⟨hz1, hy1⟩ := Prod.mk.inj hy0
    clear hy0
    obtain ⟨hz2, hy2⟩ := Prod.mk.inj hy1
    clear hy1
    obtain ⟨hz3, hy3⟩ := Prod.mk.inj hy2
    clear hy2
    obtain ⟨hz4, hy4⟩ := Prod.mk.inj hy3
    clear hy3
    obtain ⟨hz5, hy5⟩ := Prod.mk.inj hy4
    clear hy4
    obtain ⟨hz6, hy6⟩ := Prod.mk.inj hy5
    clear hy5
    obtain ⟨hz7, hy7⟩ := Prod.mk.inj hy6
    clear hy6
    obtain ⟨hz8, hy8⟩ := Prod.mk.inj hy7
    clear hy7
    obtain ⟨hz9, hy9⟩ := Prod.mk.inj hy8
    clear hy8
    obtain ⟨hz10, hy10⟩ := Prod.mk.inj hy9
    clear hy9
    obtain ⟨hz11, hy11⟩ := Prod.mk.inj hy10
    clear hy10
    obtain ⟨hz12, hy12⟩ := Prod.mk.inj hy11
    clear hy11
    obtain ⟨hz13, hy13⟩ := Prod.mk.inj hy12
    clear hy12
    obtain ⟨hz14, hy14⟩ := Prod.mk.inj hy13
    clear hy13
    obtain ⟨hz15, hy15⟩ := Prod.mk.inj hy14
    clear hy14
    obtain ⟨hz16, hy16⟩ := Prod.mk.inj hy15
    clear hy15
    obtain ⟨hz17, hy17⟩ := Prod.mk.inj hy16
    clear hy16
    obtain ⟨hz18, hy18⟩ := Prod.mk.inj hy17
    clear hy17
    obtain ⟨hz19, hy19⟩ := Prod.mk.inj hy18
    clear hy18
    subst hz1
    subst hz2
    subst hz3
    subst hz4
    subst hz5
    subst hz6
    subst hz7
    subst hz8
    subst hz9
    subst hz10
    subst hz11
    subst hz12
    subst hz13
    subst hz14
    subst hz15
    subst hz16
    subst hz17
    subst hz18
    subst hz19
    subst hy19
    exact hret _ _ dX7_drift_95 rfl
  · refine q_ldc C dX7_drift_10 lkX7_drift_1 ?_
    have hy0 := Option.some.inj hf
    clear hf
    obtain ⟨hz1, hy1⟩ := Prod.mk.inj hy0
    clear hy0
    obtain ⟨hz2, hy2⟩ := Prod.mk.inj hy1
    clear hy1
    obtain ⟨hz3, hy3⟩ := Prod.mk.inj hy2
    clear hy2
    obtain ⟨hz4, hy4⟩ := Prod.mk.inj hy3
    clear hy3
    obtain ⟨hz5, hy5⟩ := Prod.mk.inj hy4
    clear hy4
    obtain ⟨hz6, hy6⟩ := Prod.mk.inj hy5
    clear hy5
    obtain ⟨hz7, hy7⟩ := Prod.mk.inj hy6
    clear hy6
    obtain ⟨hz8, hy8⟩ := Prod.mk.inj hy7
    clear hy7
    obtain ⟨hz9, hy9⟩ := Prod.mk.inj hy8
    clear hy8
    obtain ⟨hz10, hy10⟩ := Prod.mk.inj hy9
    clear hy9
    obtain ⟨hz11, hy11⟩ := Prod.mk.inj hy10
    clear hy10
    obtain ⟨hz12, hy12⟩ := Prod.mk.inj hy11
    clear hy11
    obtain ⟨hz13, hy13⟩ := Prod.mk.inj hy12
    clear hy12
    obtain ⟨hz14, hy14⟩ := Prod.mk.inj hy13
    clear hy13
    obtain ⟨hz15, hy15⟩ := Prod.mk.inj hy14
    clear hy14
    obtain ⟨hz16, hy16⟩ := Prod.mk.inj hy15
    clear hy15
    obtain ⟨hz17, hy17⟩ := Prod.mk.inj hy16
    clear hy16
    obtain ⟨hz18, hy18⟩ := Prod.mk.inj hy17
    clear hy17
    obtain ⟨hz19, hy19⟩ := Prod.mk.inj hy18
    clear hy18
    subst hz1
    subst hz2
    subst hz3
    subst hz4
    subst hz5
    subst hz6
    subst hz7
    subst hz8
    subst hz9
    subst hz10
    subst hz11
    subst hz12
    subst hz13
    subst hz14
    subst hz15
    subst hz16
    subst hz17
    subst hz18
    subst hz19
    subst hy19
    exact hret _ _ dX7_drift_12 rfl

theorem lkX4_restore_1 : Cond.fieldLink RX4 26 "TwiceHeard$Past" "size" "I" ∈ wsX4_restore := List.mem_of_getElem? (i := 1) rfl
theorem lkX4_restore_2 : Cond.fieldLink RX4 18 "TwiceHeard$Past" "next" "I" ∈ wsX4_restore := List.mem_of_getElem? (i := 2) rfl
theorem lkX4_restore_3 : Cond.fieldLink RX4 11 "TwiceHeard$Past" "states" "[LTwiceHeard$Net;" ∈ wsX4_restore := List.mem_of_getElem? (i := 3) rfl
theorem inX4_restore_X4 : ∀ w ∈ wsX40, w ∈ wsX4_restore := fun w h => List.mem_cons_of_mem _ (List.mem_append_left _ (List.mem_append_right _ h))
theorem inX4_restore_X3 : ∀ w ∈ wsX30, w ∈ wsX4_restore := fun w h => List.mem_cons_of_mem _ (List.mem_append_right _ h)
abbrev rmX4_restore : Room := { frames := 2, cells := 0, slots := 0, locals := 61 }
theorem hdX4_restore : yX4_restore.cls = RX4 ∧ yX4_restore.cls ≠ "java/lang/invoke/MethodHandle" ∧ yX4_restore.cls ≠ "java/lang/invoke/VarHandle" ∧ (parseMethodDescriptor yX4_restore.desc).map (fun d => d.parameters.length) = some 2 := by decide +kernel
def fX4_restore (pz : Int32) (pn : Int32) (gsz : (Nat → Int32)) (gsa : (Nat → Int32)) (gmo : (Nat → Int32)) (gli : (Nat → Nat → Int32)) (glo : (Nat → Nat → Int32)) (ghe : (Nat → Nat → Int32)) (sz : Int32) (sa : Int32) (mo : Int32) (li : (Nat → Int32)) (lo : (Nat → Int32)) (he : (Nat → Int32)) (v2 : Int32) : Option (Int32 × Int32 × Int32 × Int32 × Int32 × (Nat → Int32) × (Nat → Int32) × (Nat → Int32)) :=
  if v2 < (1 : Int32) then (
  some (pz, pn, sz, sa, mo, li, lo, he)) else (
  if v2 ≤ pz then (
  (ixN 16 (((pn + (16 : Int32)) - v2) - ((pn + (16 : Int32)) - v2) / (16 : Int32) * (16 : Int32))).bind fun j49 =>
  bd6 (fX3_become sz sa mo li lo he (gsz j49) (gsa j49) (gmo j49) (gli j49) (glo j49) (ghe j49)) fun sz_50 sa_50 mo_50 li_50 lo_50 he_50 =>
  some ((pz - v2), (((pn + (16 : Int32)) - v2) - ((pn + (16 : Int32)) - v2) / (16 : Int32) * (16 : Int32)), sz_50, sa_50, mo_50, li_50, lo_50, he_50)) else (
  some (pz, pn, sz, sa, mo, li, lo, he)))
set_option maxRecDepth 100000 in
set_option maxHeartbeats 4000000 in
theorem kX4_restore (l : Launch) (D : va_G) (cI cJ cZ cN cM : ClassId) (pa : Nat → Nat) (ga : Nat → Nat) (na : Nat → Nat) (pz : Int32) (pn : Int32) (gsz : (Nat → Int32)) (gsa : (Nat → Int32)) (gmo : (Nat → Int32)) (gli : (Nat → Nat → Int32)) (glo : (Nat → Nat → Int32)) (ghe : (Nat → Nat → Int32)) (sz : Int32) (sa : Int32) (mo : Int32) (li : (Nat → Int32)) (lo : (Nat → Int32)) (he : (Nat → Int32)) (v2 : Int32) (pz_o : Int32) (pn_o : Int32) (sz_o : Int32) (sa_o : Int32) (mo_o : Int32) (li_o : (Nat → Int32)) (lo_o : (Nat → Int32)) (he_o : (Nat → Int32)) (hf : fX4_restore pz pn gsz gsa gmo gli glo ghe sz sa mo li lo he v2 = some (pz_o, pn_o, sz_o, sa_o, mo_o, li_o, lo_o, he_o)) : MetV l yX4_restore wsX4_restore rmX4_restore D (TYL cI cJ cZ cN cM) [.ref (pa 0), .ref (na 0), .int v2] (List.flatten [pW cI cJ cZ cN cM pa ga pz pn, gW cI cJ cZ cN cM ga gsz gsa gmo gli glo ghe, nW cI cJ cZ cN cM na sz sa mo li lo he]) (List.flatten [pW cI cJ cZ cN cM pa ga pz_o pn_o, gW cI cJ cZ cN cM ga gsz gsa gmo gli glo ghe, nW cI cJ cZ cN cM na sz_o sa_o mo_o li_o lo_o he_o]) := by
  refine MetV.mk (cc := cX4_restore) (maxL := 3) (own := RX4) [(0, .ref (pa 0)), (1, .ref (na 0)), (2, .int v2)] (by decide +kernel) rfl rfl (Nat.le_of_ble_eq_true rfl) rfl ?_
  intro p e s m args below meth c A Q C hret
  unfold fX4_restore at hf
  refine q_iload_n C 2 dX4_restore_0 rfl ?_
  refine q_iconst C 1 dX4_restore_1 (by decide) ?_
  refine q_icmp_lt C 13 dX4_restore_2 (by decide) hf (fun hf => ?_) (fun hf => ?_)
  · have hy0 := Option.some.inj hf
    clear hf
    obtain ⟨hz1, hy1⟩ := Prod.mk.inj hy0
    clear hy0
    obtain ⟨hz2, hy2⟩ := Prod.mk.inj hy1
    clear hy1
    obtain ⟨hz3, hy3⟩ := Prod.mk.inj hy2
    clear hy2
    obtain ⟨hz4, hy4⟩ := Prod.mk.inj hy3
    clear hy3
    obtain ⟨hz5, hy5⟩ := Prod.mk.inj hy4
    clear hy4
    obtain ⟨hz6, hy6⟩ := Prod.mk.inj hy5
    clear hy5
    obtain ⟨hz7, hy7⟩ := Prod.mk.inj hy6
    clear hy6
    subst hz1
    subst hz2
    subst hz3
    subst hz4
    subst hz5
    subst hz6
    subst hz7
    subst hy7
    exact hret _ _ dX4_restore_13
  · refine q_iload_n C 2 dX4_restore_5 rfl ?_
    refine q_aload_n C 0 dX4_restore_6 rfl ?_
    refine q_get C 0 1 dX4_restore_7 rfl rfl (Nat.le_of_ble_eq_true rfl) inX4_restore_X4 lkX4_restore_1 rfl rfl ?_
    refine q_icmp_le C 14 dX4_restore_10 (by decide) hf (fun hf => ?_) (fun hf => ?_)
    · refine q_aload_n C 0 dX4_restore_14 rfl ?_
      refine q_aload_n C 0 dX4_restore_15 rfl ?_
      refine q_get C 0 2 dX4_restore_16 rfl rfl (Nat.le_of_ble_eq_true rfl) inX4_restore_X4 lkX4_restore_2 rfl rfl ?_
      refine q_bipush C 16 dX4_restore_19 (by decide) ?_
      refine q_iadd C dX4_restore_21 ?_
      refine q_iload_n C 2 dX4_restore_22 rfl ?_
      refine q_isub C dX4_restore_23 ?_
      refine q_bipush C 16 dX4_restore_24 (by decide) ?_
      refine q_iremC C dX4_restore_26 (by decide) ?_
      refine q_put C 0 2 (List.flatten [pW cI cJ cZ cN cM pa ga pz (((pn + (16 : Int32)) - v2) - ((pn + (16 : Int32)) - v2) / (16 : Int32) * (16 : Int32)), gW cI cJ cZ cN cM ga gsz gsa gmo gli glo ghe, nW cI cJ cZ cN cM na sz sa mo li lo he]) dX4_restore_27 rfl rfl (Nat.le_of_ble_eq_true rfl) inX4_restore_X4 tyX4 tyX4_ok nmX4 lkX4_restore_2 rfl rfl rfl rfl (Nat.le_of_ble_eq_true rfl) rfl ?_
      refine q_aload_n C 0 dX4_restore_30 rfl ?_
      refine q_dup C dX4_restore_31 rfl ?_
      refine q_get C 0 1 dX4_restore_32 rfl rfl (Nat.le_of_ble_eq_true rfl) inX4_restore_X4 lkX4_restore_1 rfl rfl ?_
      refine q_iload_n C 2 dX4_restore_35 rfl ?_
      refine q_isub C dX4_restore_36 ?_
      refine q_put C 0 1 (List.flatten [pW cI cJ cZ cN cM pa ga (pz - v2) (((pn + (16 : Int32)) - v2) - ((pn + (16 : Int32)) - v2) / (16 : Int32) * (16 : Int32)), gW cI cJ cZ cN cM ga gsz gsa gmo gli glo ghe, nW cI cJ cZ cN cM na sz sa mo li lo he]) dX4_restore_37 rfl rfl (Nat.le_of_ble_eq_true rfl) inX4_restore_X4 tyX4 tyX4_ok nmX4 lkX4_restore_1 rfl rfl rfl rfl (Nat.le_of_ble_eq_true rfl) rfl ?_
      refine q_aload_n C 1 dX4_restore_40 rfl ?_
      refine q_aload_n C 0 dX4_restore_41 rfl ?_
      refine q_get C 0 0 dX4_restore_42 rfl rfl (Nat.le_of_ble_eq_true rfl) inX4_restore_X4 lkX4_restore_3 rfl rfl ?_
      refine q_aload_n C 0 dX4_restore_45 rfl ?_
      refine q_get C 0 2 dX4_restore_46 rfl rfl (Nat.le_of_ble_eq_true rfl) inX4_restore_X4 lkX4_restore_2 rfl rfl ?_
      refine q_aaldB C (fun j => ga (1 + 4 * j)) 1 3 dX4_restore_49 rfl rfl (fun _ => rfl) hf (fun j49 hj49 hf => ?_)
      obtain ⟨sz_50, sa_50, mo_50, li_50, lo_50, he_50, hM, hf⟩ := bd6_e hf
      refine q_callVV C (List.flatten [pW cI cJ cZ cN cM pa ga (pz - v2) (((pn + (16 : Int32)) - v2) - ((pn + (16 : Int32)) - v2) / (16 : Int32) * (16 : Int32)), gW cI cJ cZ cN cM ga gsz gsa gmo gli glo ghe, nW cI cJ cZ cN cM na sz_50 sa_50 mo_50 li_50 lo_50 he_50]) (kX3_become l D cI cJ cZ cN cM na (fun i => ga (1 + 4 * j49 + i)) sz sa mo li lo he (gsz j49) (gsa j49) (gmo j49) (gli j49) (glo j49) (ghe j49)  sz_50 sa_50 mo_50 li_50 lo_50 he_50 hM) (cwV 1 C.1.2.2.2.2 gX4_restore_X3_become rfl rfl rfl hdX3_become ⟨Nat.le_of_ble_eq_true rfl, Nat.le_of_ble_eq_true rfl⟩) 66 3 rfl rfl (fr_S2 hj49 rfl) rfl rfl (Nat.le_of_ble_eq_true rfl) dX4_restore_50 ⟨Nat.zero_le _, Nat.zero_le _⟩ ?_
      have hy0 := Option.some.inj hf
      clear hf
      obtain ⟨hz1, hy1⟩ := Prod.mk.inj hy0
      clear hy0
      obtain ⟨hz2, hy2⟩ := Prod.mk.inj hy1
      clear hy1
      obtain ⟨hz3, hy3⟩ := Prod.mk.inj hy2
      clear hy2
      obtain ⟨hz4, hy4⟩ := Prod.mk.inj hy3
      clear hy3
      obtain ⟨hz5, hy5⟩ := Prod.mk.inj hy4
      clear hy4
      obtain ⟨hz6, hy6⟩ := Prod.mk.inj hy5
      clear hy5
      obtain ⟨hz7, hy7⟩ := Prod.mk.inj hy6
      clear hy6
      subst hz1
      subst hz2
      subst hz3
      subst hz4
      subst hz5
      subst hz6
      subst hz7
      subst hy7
      exact hret _ _ dX4_restore_53
    · have hy0 := Option.some.inj hf
      clear hf
      obtain ⟨hz1, hy1⟩ := Prod.mk.inj hy0
      clear hy0
      obtain ⟨hz2, hy2⟩ := Prod.mk.inj hy1
      clear hy1
      obtain ⟨hz3, hy3⟩ := Prod.mk.inj hy2
      clear hy2
      obtain ⟨hz4, hy4⟩ := Prod.mk.inj hy3
      clear hy3
      obtain ⟨hz5, hy5⟩ := Prod.mk.inj hy4
      clear hy4
      obtain ⟨hz6, hy6⟩ := Prod.mk.inj hy5
      clear hy5
      obtain ⟨hz7, hy7⟩ := Prod.mk.inj hy6
      clear hy6
      subst hz1
      subst hz2
      subst hz3
      subst hz4
      subst hz5
      subst hz6
      subst hz7
      subst hy7
      exact hret _ _ dX4_restore_13

theorem lkX7_undo_1 : Cond.constant RX7 105 (-1000000002) ∈ wsX7_undo := List.mem_of_getElem? (i := 1) rfl
theorem lkX7_undo_2 : Cond.fieldLink RX7 19 "TwiceHeard" "past" "LTwiceHeard$Past;" ∈ wsX7_undo := List.mem_of_getElem? (i := 2) rfl
theorem lkX7_undo_3 : Cond.fieldLink RX7 101 "TwiceHeard$Past" "size" "I" ∈ wsX7_undo := List.mem_of_getElem? (i := 3) rfl
theorem lkX7_undo_4 : Cond.constant RX7 200 (-1000000003) ∈ wsX7_undo := List.mem_of_getElem? (i := 4) rfl
theorem lkX7_undo_5 : Cond.fieldLink RX7 10 "TwiceHeard" "net" "LTwiceHeard$Net;" ∈ wsX7_undo := List.mem_of_getElem? (i := 5) rfl
theorem inX7_undo_X7 : ∀ w ∈ wsX70, w ∈ wsX7_undo := fun w h => List.mem_cons_of_mem _ (List.mem_append_left _ (List.mem_append_left _ (List.mem_append_right _ h)))
theorem inX7_undo_X4 : ∀ w ∈ wsX40, w ∈ wsX7_undo := fun w h => List.mem_cons_of_mem _ (List.mem_append_left _ (List.mem_append_right _ h))
theorem inX7_undo_X3 : ∀ w ∈ wsX30, w ∈ wsX7_undo := fun w h => List.mem_cons_of_mem _ (List.mem_append_right _ h)
abbrev rmX7_undo : Room := { frames := 3, cells := 0, slots := 0, locals := 83 }
theorem hdX7_undo : yX7_undo.cls = RX7 ∧ yX7_undo.cls ≠ "java/lang/invoke/MethodHandle" ∧ yX7_undo.cls ≠ "java/lang/invoke/VarHandle" ∧ (parseMethodDescriptor yX7_undo.desc).map (fun d => d.parameters.length) = some 1 := by decide +kernel
def fX7_undo (sz : Int32) (sa : Int32) (mo : Int32) (li : (Nat → Int32)) (lo : (Nat → Int32)) (he : (Nat → Int32)) (pz : Int32) (pn : Int32) (gsz : (Nat → Int32)) (gsa : (Nat → Int32)) (gmo : (Nat → Int32)) (gli : (Nat → Nat → Int32)) (glo : (Nat → Nat → Int32)) (ghe : (Nat → Nat → Int32)) (v1 : Int32) : Option (Int32 × Int32 × Int32 × Int32 × (Nat → Int32) × (Nat → Int32) × (Nat → Int32) × Int32 × Int32) :=
  (fX7_within v1 (1 : Int32) (16 : Int32)).bind fun x4 =>
  if x4 = 0 then (
  some ((-1000000002 : Int32), sz, sa, mo, li, lo, he, pz, pn)) else (
  if v1 ≤ pz then (
  bd8 (fX4_restore pz pn gsz gsa gmo gli glo ghe sz sa mo li lo he v1) fun pz_36 pn_36 sz_36 sa_36 mo_36 li_36 lo_36 he_36 =>
  some (pz_36, sz_36, sa_36, mo_36, li_36, lo_36, he_36, pz_36, pn_36)) else (
  some ((-1000000003 : Int32), sz, sa, mo, li, lo, he, pz, pn)))
set_option maxRecDepth 100000 in
set_option maxHeartbeats 4000000 in
theorem kX7_undo (l : Launch) (D : va_G) (cI cJ cZ cN cM : ClassId) (xa : Nat → Nat) (na : Nat → Nat) (pa : Nat → Nat) (ta : Nat → Nat) (ba : Nat → Nat) (da : Nat → Nat) (ia : Nat → Nat) (ga : Nat → Nat) (rc : (Nat → Int64)) (sz : Int32) (sa : Int32) (mo : Int32) (li : (Nat → Int32)) (lo : (Nat → Int32)) (he : (Nat → Int32)) (pz : Int32) (pn : Int32) (gsz : (Nat → Int32)) (gsa : (Nat → Int32)) (gmo : (Nat → Int32)) (gli : (Nat → Nat → Int32)) (glo : (Nat → Nat → Int32)) (ghe : (Nat → Nat → Int32)) (v1 : Int32) (r : Int32) (sz_o : Int32) (sa_o : Int32) (mo_o : Int32) (li_o : (Nat → Int32)) (lo_o : (Nat → Int32)) (he_o : (Nat → Int32)) (pz_o : Int32) (pn_o : Int32) (hf : fX7_undo sz sa mo li lo he pz pn gsz gsa gmo gli glo ghe v1 = some (r, sz_o, sa_o, mo_o, li_o, lo_o, he_o, pz_o, pn_o)) : MetI l yX7_undo wsX7_undo rmX7_undo D (TYL cI cJ cZ cN cM) [.ref (xa 0), .int v1] (List.flatten [xW cI cJ cZ cN cM xa na pa ta ba da ia rc, nW cI cJ cZ cN cM na sz sa mo li lo he, pW cI cJ cZ cN cM pa ga pz pn, gW cI cJ cZ cN cM ga gsz gsa gmo gli glo ghe]) (List.flatten [xW cI cJ cZ cN cM xa na pa ta ba da ia rc, nW cI cJ cZ cN cM na sz_o sa_o mo_o li_o lo_o he_o, pW cI cJ cZ cN cM pa ga pz_o pn_o, gW cI cJ cZ cN cM ga gsz gsa gmo gli glo ghe]) r := by
  refine MetI.mk (cc := cX7_undo) (maxL := 2) (own := RX7) (ty := .int) [(0, .ref (xa 0)), (1, .int v1)] (by decide +kernel) rfl rfl (Nat.le_of_ble_eq_true rfl) rfl ?_
  intro p e s m args below meth c A Q C hret
  unfold fX7_undo at hf
  refine q_iload_n C 1 dX7_undo_0 rfl ?_
  refine q_iconst C 1 dX7_undo_1 (by decide) ?_
  refine q_bipush C 16 dX7_undo_2 (by decide) ?_
  obtain ⟨x4, hM, hf⟩ := bd_e hf
  refine q_callSI C (List.flatten [xW cI cJ cZ cN cM xa na pa ta ba da ia rc, nW cI cJ cZ cN cM na sz sa mo li lo he, pW cI cJ cZ cN cM pa ga pz pn, gW cI cJ cZ cN cM ga gsz gsa gmo gli glo ghe]) (kX7_within l D cI cJ cZ cN cM   v1 (1 : Int32) (16 : Int32) x4 hM) (va_cwS 3 C.1.2.2.2.2 gX7_undo_X7_within rfl rfl rfl hdX7_within ⟨Nat.le_of_ble_eq_true rfl, Nat.le_of_ble_eq_true rfl⟩) FrX.none rfl rfl (Nat.le_of_ble_eq_true rfl) dX7_undo_4 ⟨Nat.zero_le _, Nat.zero_le _⟩ ?_
  refine q_if_ne C 13 dX7_undo_7 (by decide) hf (fun hf => ?_) (fun hf => ?_)
  · refine q_iload_n C 1 dX7_undo_13 rfl ?_
    refine q_aload_n C 0 dX7_undo_14 rfl ?_
    refine q_get C 0 1 dX7_undo_15 rfl rfl (Nat.le_of_ble_eq_true rfl) inX7_undo_X7 lkX7_undo_2 rfl rfl ?_
    refine q_get C 6 1 dX7_undo_18 rfl rfl (Nat.le_of_ble_eq_true rfl) inX7_undo_X4 lkX7_undo_3 rfl rfl ?_
    refine q_icmp_le C 27 dX7_undo_21 (by decide) hf (fun hf => ?_) (fun hf => ?_)
    · refine q_aload_n C 0 dX7_undo_27 rfl ?_
      refine q_get C 0 1 dX7_undo_28 rfl rfl (Nat.le_of_ble_eq_true rfl) inX7_undo_X7 lkX7_undo_2 rfl rfl ?_
      refine q_aload_n C 0 dX7_undo_31 rfl ?_
      refine q_get C 0 0 dX7_undo_32 rfl rfl (Nat.le_of_ble_eq_true rfl) inX7_undo_X7 lkX7_undo_5 rfl rfl ?_
      refine q_iload_n C 1 dX7_undo_35 rfl ?_
      obtain ⟨pz_36, pn_36, sz_36, sa_36, mo_36, li_36, lo_36, he_36, hM, hf⟩ := bd8_e hf
      refine q_callVV C (List.flatten [xW cI cJ cZ cN cM xa na pa ta ba da ia rc, nW cI cJ cZ cN cM na sz_36 sa_36 mo_36 li_36 lo_36 he_36, pW cI cJ cZ cN cM pa ga pz_36 pn_36, gW cI cJ cZ cN cM ga gsz gsa gmo gli glo ghe]) (kX4_restore l D cI cJ cZ cN cM pa ga na pz pn gsz gsa gmo gli glo ghe sz sa mo li lo he v1 pz_36 pn_36 sz_36 sa_36 mo_36 li_36 lo_36 he_36 hM) (cwV 2 C.1.2.2.2.2 gX7_undo_X4_restore rfl rfl rfl hdX4_restore ⟨Nat.le_of_ble_eq_true rfl, Nat.le_of_ble_eq_true rfl⟩) 6 4 rfl rfl (FrX.blk [xW cI cJ cZ cN cM xa na pa ta ba da ia rc, nW cI cJ cZ cN cM na sz sa mo li lo he, pW cI cJ cZ cN cM pa ga pz pn, gW cI cJ cZ cN cM ga gsz gsa gmo gli glo ghe] [xW cI cJ cZ cN cM xa na pa ta ba da ia rc, nW cI cJ cZ cN cM na sz_36 sa_36 mo_36 li_36 lo_36 he_36, pW cI cJ cZ cN cM pa ga pz_36 pn_36, gW cI cJ cZ cN cM ga gsz gsa gmo gli glo ghe] [2, 3, 1] [0] 4 rfl rfl (by decide) rfl rfl rfl) rfl rfl (Nat.le_of_ble_eq_true rfl) dX7_undo_36 ⟨Nat.zero_le _, Nat.zero_le _⟩ ?_
      refine q_aload_n C 0 dX7_undo_39 rfl ?_
      refine q_get C 0 1 dX7_undo_40 rfl rfl (Nat.le_of_ble_eq_true rfl) inX7_undo_X7 lkX7_undo_2 rfl rfl ?_
      refine q_get C 6 1 dX7_undo_43 rfl rfl (Nat.le_of_ble_eq_true rfl) inX7_undo_X4 lkX7_undo_3 rfl rfl ?_
      have hy0 := Option.some.inj hf
      clear hf
      obtain ⟨hz1, hy1⟩ := Prod.mk.inj hy0
      clear hy0
      obtain ⟨hz2, hy2⟩ := Prod.mk.inj hy1
      clear hy1
      obtain ⟨hz3, hy3⟩ := Prod.mk.inj hy2
      clear hy2
      obtain ⟨hz4, hy4⟩ := Prod.mk.inj hy3
      clear hy3
      obtain ⟨hz5, hy5⟩ := Prod.mk.inj hy4
      clear hy4
      obtain ⟨hz6, hy6⟩ := Prod.mk.inj hy5
      clear hy5
      obtain ⟨hz7, hy7⟩ := Prod.mk.inj hy6
      clear hy6
      obtain ⟨hz8, hy8⟩ := Prod.mk.inj hy7
      clear hy7
      subst hz1
      subst hz2
      subst hz3
      subst hz4
      subst hz5
      subst hz6
      subst hz7
      subst hz8
      subst hy8
      exact hret _ _ dX7_undo_46 rfl
    · refine q_ldc C dX7_undo_24 lkX7_undo_4 ?_
      have hy0 := Option.some.inj hf
      clear hf
      obtain ⟨hz1, hy1⟩ := Prod.mk.inj hy0
      clear hy0
      obtain ⟨hz2, hy2⟩ := Prod.mk.inj hy1
      clear hy1
      obtain ⟨hz3, hy3⟩ := Prod.mk.inj hy2
      clear hy2
      obtain ⟨hz4, hy4⟩ := Prod.mk.inj hy3
      clear hy3
      obtain ⟨hz5, hy5⟩ := Prod.mk.inj hy4
      clear hy4
      obtain ⟨hz6, hy6⟩ := Prod.mk.inj hy5
      clear hy5
      obtain ⟨hz7, hy7⟩ := Prod.mk.inj hy6
      clear hy6
      obtain ⟨hz8, hy8⟩ := Prod.mk.inj hy7
      clear hy7
      subst hz1
      subst hz2
      subst hz3
      subst hz4
      subst hz5
      subst hz6
      subst hz7
      subst hz8
      subst hy8
      exact hret _ _ dX7_undo_26 rfl
  · refine q_ldc C dX7_undo_10 lkX7_undo_1 ?_
    have hy0 := Option.some.inj hf
    clear hf
    obtain ⟨hz1, hy1⟩ := Prod.mk.inj hy0
    clear hy0
    obtain ⟨hz2, hy2⟩ := Prod.mk.inj hy1
    clear hy1
    obtain ⟨hz3, hy3⟩ := Prod.mk.inj hy2
    clear hy2
    obtain ⟨hz4, hy4⟩ := Prod.mk.inj hy3
    clear hy3
    obtain ⟨hz5, hy5⟩ := Prod.mk.inj hy4
    clear hy4
    obtain ⟨hz6, hy6⟩ := Prod.mk.inj hy5
    clear hy5
    obtain ⟨hz7, hy7⟩ := Prod.mk.inj hy6
    clear hy6
    obtain ⟨hz8, hy8⟩ := Prod.mk.inj hy7
    clear hy7
    subst hz1
    subst hz2
    subst hz3
    subst hz4
    subst hz5
    subst hz6
    subst hz7
    subst hz8
    subst hy8
    exact hret _ _ dX7_undo_12 rfl

theorem lkX7_write_1 : Cond.fieldLink RX7 10 "TwiceHeard" "net" "LTwiceHeard$Net;" ∈ wsX7_write := List.mem_of_getElem? (i := 1) rfl
theorem lkX7_write_2 : Cond.constant RX7 110 (-1000000001) ∈ wsX7_write := List.mem_of_getElem? (i := 2) rfl
theorem lkX7_write_3 : Cond.fieldLink RX7 33 "TwiceHeard" "book" "LTwiceHeard$Book;" ∈ wsX7_write := List.mem_of_getElem? (i := 3) rfl
theorem lkX7_write_4 : Cond.fieldLink RX7 97 "TwiceHeard$Book" "size" "I" ∈ wsX7_write := List.mem_of_getElem? (i := 4) rfl
theorem lkX7_write_5 : Cond.constant RX7 192 (-1000000004) ∈ wsX7_write := List.mem_of_getElem? (i := 5) rfl
theorem inX7_write_X7 : ∀ w ∈ wsX70, w ∈ wsX7_write := fun w h => List.mem_cons_of_mem _ (List.mem_append_left _ (List.mem_append_left _ (List.mem_append_right _ h)))
theorem inX7_write_X0 : ∀ w ∈ wsX00, w ∈ wsX7_write := fun w h => List.mem_cons_of_mem _ (List.mem_append_left _ (List.mem_append_right _ h))
theorem inX7_write_X3 : ∀ w ∈ wsX30, w ∈ wsX7_write := fun w h => List.mem_cons_of_mem _ (List.mem_append_right _ h)
abbrev rmX7_write : Room := { frames := 1, cells := 0, slots := 0, locals := 22 }
theorem hdX7_write : yX7_write.cls = RX7 ∧ yX7_write.cls ≠ "java/lang/invoke/MethodHandle" ∧ yX7_write.cls ≠ "java/lang/invoke/VarHandle" ∧ (parseMethodDescriptor yX7_write.desc).map (fun d => d.parameters.length) = some 2 := by decide +kernel
def fX7_write (sz : Int32) (bn : (Nat → Int32)) (bg : (Nat → Int32)) (bz : Int32) (v1 : Int32) (v2 : Int32) : Option (Int32 × (Nat → Int32) × (Nat → Int32) × Int32) :=
  (fX3_has sz v1).bind fun x5 =>
  if x5 = 0 then (
  some ((-1000000001 : Int32), bn, bg, bz)) else (
  if bz < (20 : Int32) then (
  bd3 (fX0_enter bn bg bz v1 v2) fun bn_35 bg_35 bz_35 =>
  some (bz_35, bn_35, bg_35, bz_35)) else (
  some ((-1000000004 : Int32), bn, bg, bz)))
set_option maxRecDepth 100000 in
set_option maxHeartbeats 4000000 in
theorem kX7_write (l : Launch) (D : va_G) (cI cJ cZ cN cM : ClassId) (xa : Nat → Nat) (na : Nat → Nat) (pa : Nat → Nat) (ta : Nat → Nat) (ba : Nat → Nat) (da : Nat → Nat) (ia : Nat → Nat) (rc : (Nat → Int64)) (sz : Int32) (sa : Int32) (mo : Int32) (li : (Nat → Int32)) (lo : (Nat → Int32)) (he : (Nat → Int32)) (bn : (Nat → Int32)) (bg : (Nat → Int32)) (bz : Int32) (v1 : Int32) (v2 : Int32) (r : Int32) (bn_o : (Nat → Int32)) (bg_o : (Nat → Int32)) (bz_o : Int32) (hf : fX7_write sz bn bg bz v1 v2 = some (r, bn_o, bg_o, bz_o)) : MetI l yX7_write wsX7_write rmX7_write D (TYL cI cJ cZ cN cM) [.ref (xa 0), .int v1, .int v2] (List.flatten [xW cI cJ cZ cN cM xa na pa ta ba da ia rc, nW cI cJ cZ cN cM na sz sa mo li lo he, bW cI cJ cZ cN cM ba bn bg bz]) (List.flatten [xW cI cJ cZ cN cM xa na pa ta ba da ia rc, nW cI cJ cZ cN cM na sz sa mo li lo he, bW cI cJ cZ cN cM ba bn_o bg_o bz_o]) r := by
  refine MetI.mk (cc := cX7_write) (maxL := 3) (own := RX7) (ty := .int) [(0, .ref (xa 0)), (1, .int v1), (2, .int v2)] (by decide +kernel) rfl rfl (Nat.le_of_ble_eq_true rfl) rfl ?_
  intro p e s m args below meth c A Q C hret
  unfold fX7_write at hf
  refine q_aload_n C 0 dX7_write_0 rfl ?_
  refine q_get C 0 0 dX7_write_1 rfl rfl (Nat.le_of_ble_eq_true rfl) inX7_write_X7 lkX7_write_1 rfl rfl ?_
  refine q_iload_n C 1 dX7_write_4 rfl ?_
  obtain ⟨x5, hM, hf⟩ := bd_e hf
  refine q_callVI C (List.flatten [xW cI cJ cZ cN cM xa na pa ta ba da ia rc, nW cI cJ cZ cN cM na sz sa mo li lo he, bW cI cJ cZ cN cM ba bn bg bz]) (kX3_has l D cI cJ cZ cN cM na sz sa mo li lo he v1 x5 hM) (cwV 1 C.1.2.2.2.2 gX7_write_X3_has rfl rfl rfl hdX3_has ⟨Nat.le_of_ble_eq_true rfl, Nat.le_of_ble_eq_true rfl⟩) 2 3 rfl rfl (FrX.blk [xW cI cJ cZ cN cM xa na pa ta ba da ia rc, nW cI cJ cZ cN cM na sz sa mo li lo he, bW cI cJ cZ cN cM ba bn bg bz] [xW cI cJ cZ cN cM xa na pa ta ba da ia rc, nW cI cJ cZ cN cM na sz sa mo li lo he, bW cI cJ cZ cN cM ba bn bg bz] [1] [0, 2] 3 rfl rfl (by decide) rfl (List.append_nil _) (List.append_nil _)) rfl rfl (Nat.le_of_ble_eq_true rfl) dX7_write_5 ⟨Nat.zero_le _, Nat.zero_le _⟩ ?_
  refine q_if_ne C 14 dX7_write_8 (by decide) hf (fun hf => ?_) (fun hf => ?_)
  · refine q_aload_n C 0 dX7_write_14 rfl ?_
    refine q_get C 0 3 dX7_write_15 rfl rfl (Nat.le_of_ble_eq_true rfl) inX7_write_X7 lkX7_write_3 rfl rfl ?_
    refine q_get C 6 2 dX7_write_18 rfl rfl (Nat.le_of_ble_eq_true rfl) inX7_write_X0 lkX7_write_4 rfl rfl ?_
    refine q_bipush C 20 dX7_write_21 (by decide) ?_
    refine q_icmp_lt C 29 dX7_write_23 (by decide) hf (fun hf => ?_) (fun hf => ?_)
    · refine q_aload_n C 0 dX7_write_29 rfl ?_
      refine q_get C 0 3 dX7_write_30 rfl rfl (Nat.le_of_ble_eq_true rfl) inX7_write_X7 lkX7_write_3 rfl rfl ?_
      refine q_iload_n C 1 dX7_write_33 rfl ?_
      refine q_iload_n C 2 dX7_write_34 rfl ?_
      obtain ⟨bn_35, bg_35, bz_35, hM, hf⟩ := bd3_e hf
      refine q_callVV C (List.flatten [xW cI cJ cZ cN cM xa na pa ta ba da ia rc, nW cI cJ cZ cN cM na sz sa mo li lo he, bW cI cJ cZ cN cM ba bn_35 bg_35 bz_35]) (kX0_enter l D cI cJ cZ cN cM ba bn bg bz v1 v2 bn_35 bg_35 bz_35 hM) (cwV 2 C.1.2.2.2.2 gX7_write_X0_enter rfl rfl rfl hdX0_enter ⟨Nat.le_of_ble_eq_true rfl, Nat.le_of_ble_eq_true rfl⟩) 6 0 rfl rfl (FrX.blk [xW cI cJ cZ cN cM xa na pa ta ba da ia rc, nW cI cJ cZ cN cM na sz sa mo li lo he, bW cI cJ cZ cN cM ba bn bg bz] [xW cI cJ cZ cN cM xa na pa ta ba da ia rc, nW cI cJ cZ cN cM na sz sa mo li lo he, bW cI cJ cZ cN cM ba bn_35 bg_35 bz_35] [2] [0, 1] 3 rfl rfl (by decide) rfl (List.append_nil _) (List.append_nil _)) rfl rfl (Nat.le_of_ble_eq_true rfl) dX7_write_35 ⟨Nat.zero_le _, Nat.zero_le _⟩ ?_
      refine q_aload_n C 0 dX7_write_38 rfl ?_
      refine q_get C 0 3 dX7_write_39 rfl rfl (Nat.le_of_ble_eq_true rfl) inX7_write_X7 lkX7_write_3 rfl rfl ?_
      refine q_get C 6 2 dX7_write_42 rfl rfl (Nat.le_of_ble_eq_true rfl) inX7_write_X0 lkX7_write_4 rfl rfl ?_
      have hy0 := Option.some.inj hf
      clear hf
      obtain ⟨hz1, hy1⟩ := Prod.mk.inj hy0
      clear hy0
      obtain ⟨hz2, hy2⟩ := Prod.mk.inj hy1
      clear hy1
      obtain ⟨hz3, hy3⟩ := Prod.mk.inj hy2
      clear hy2
      subst hz1
      subst hz2
      subst hz3
      subst hy3
      exact hret _ _ dX7_write_45 rfl
    · refine q_ldc C dX7_write_26 lkX7_write_5 ?_
      have hy0 := Option.some.inj hf
      clear hf
      obtain ⟨hz1, hy1⟩ := Prod.mk.inj hy0
      clear hy0
      obtain ⟨hz2, hy2⟩ := Prod.mk.inj hy1
      clear hy1
      obtain ⟨hz3, hy3⟩ := Prod.mk.inj hy2
      clear hy2
      subst hz1
      subst hz2
      subst hz3
      subst hy3
      exact hret _ _ dX7_write_28 rfl
  · refine q_ldc C dX7_write_11 lkX7_write_2 ?_
    have hy0 := Option.some.inj hf
    clear hf
    obtain ⟨hz1, hy1⟩ := Prod.mk.inj hy0
    clear hy0
    obtain ⟨hz2, hy2⟩ := Prod.mk.inj hy1
    clear hy1
    obtain ⟨hz3, hy3⟩ := Prod.mk.inj hy2
    clear hy2
    subst hz1
    subst hz2
    subst hz3
    subst hy3
    exact hret _ _ dX7_write_13 rfl

theorem lkX7_tear_1 : Cond.fieldLink RX7 33 "TwiceHeard" "book" "LTwiceHeard$Book;" ∈ wsX7_tear := List.mem_of_getElem? (i := 1) rfl
theorem lkX7_tear_2 : Cond.fieldLink RX7 97 "TwiceHeard$Book" "size" "I" ∈ wsX7_tear := List.mem_of_getElem? (i := 2) rfl
theorem inX7_tear_X7 : ∀ w ∈ wsX70, w ∈ wsX7_tear := fun w h => List.mem_cons_of_mem _ (List.mem_append_left _ (List.mem_append_right _ h))
theorem inX7_tear_X0 : ∀ w ∈ wsX00, w ∈ wsX7_tear := fun w h => List.mem_cons_of_mem _ (List.mem_append_right _ h)
abbrev rmX7_tear : Room := { frames := 0, cells := 0, slots := 0, locals := 0 }
theorem hdX7_tear : yX7_tear.cls = RX7 ∧ yX7_tear.cls ≠ "java/lang/invoke/MethodHandle" ∧ yX7_tear.cls ≠ "java/lang/invoke/VarHandle" ∧ (parseMethodDescriptor yX7_tear.desc).map (fun d => d.parameters.length) = some 0 := by decide +kernel
def fX7_tear (bz : Int32)  : Option (Int32 × Int32) :=
  some (bz, (0 : Int32))
set_option maxRecDepth 100000 in
set_option maxHeartbeats 4000000 in
theorem kX7_tear (l : Launch) (D : va_G) (cI cJ cZ cN cM : ClassId) (xa : Nat → Nat) (na : Nat → Nat) (pa : Nat → Nat) (ta : Nat → Nat) (ba : Nat → Nat) (da : Nat → Nat) (ia : Nat → Nat) (rc : (Nat → Int64)) (bn : (Nat → Int32)) (bg : (Nat → Int32)) (bz : Int32)  (r : Int32) (bz_o : Int32) (hf : fX7_tear bz = some (r, bz_o)) : MetI l yX7_tear wsX7_tear rmX7_tear D (TYL cI cJ cZ cN cM) [.ref (xa 0)] (List.flatten [xW cI cJ cZ cN cM xa na pa ta ba da ia rc, bW cI cJ cZ cN cM ba bn bg bz]) (List.flatten [xW cI cJ cZ cN cM xa na pa ta ba da ia rc, bW cI cJ cZ cN cM ba bn bg bz_o]) r := by
  refine MetI.mk (cc := cX7_tear) (maxL := 2) (own := RX7) (ty := .int) [(0, .ref (xa 0))] (by decide +kernel) rfl rfl (Nat.le_of_ble_eq_true rfl) rfl ?_
  intro p e s m args below meth c A Q C hret
  unfold fX7_tear at hf
  refine q_aload_n C 0 dX7_tear_0 rfl ?_
  refine q_get C 0 3 dX7_tear_1 rfl rfl (Nat.le_of_ble_eq_true rfl) inX7_tear_X7 lkX7_tear_1 rfl rfl ?_
  refine q_get C 2 2 dX7_tear_4 rfl rfl (Nat.le_of_ble_eq_true rfl) inX7_tear_X0 lkX7_tear_2 rfl rfl ?_
  refine q_istore_n C [(1, .int bz), (0, .ref (xa 0))] dX7_tear_7 (by decide) rfl ?_
  refine q_aload_n C 1 dX7_tear_8 rfl ?_
  refine q_get C 0 3 dX7_tear_9 rfl rfl (Nat.le_of_ble_eq_true rfl) inX7_tear_X7 lkX7_tear_1 rfl rfl ?_
  refine q_iconst C 0 dX7_tear_12 (by decide) ?_
  refine q_put C 2 2 (List.flatten [xW cI cJ cZ cN cM xa na pa ta ba da ia rc, bW cI cJ cZ cN cM ba bn bg (0 : Int32)]) dX7_tear_13 rfl rfl (Nat.le_of_ble_eq_true rfl) inX7_tear_X0 tyX0 tyX0_ok nmX0 lkX7_tear_2 rfl rfl rfl rfl (Nat.le_of_ble_eq_true rfl) rfl ?_
  refine q_iload_n C 0 dX7_tear_16 rfl ?_
  have hy0 := Option.some.inj hf
  clear hf
  obtain ⟨hz1, hy1⟩ := Prod.mk.inj hy0
  clear hy0
  subst hz1
  subst hy1
  exact hret _ _ dX7_tear_17 rfl

theorem lkX7_seed_1 : Cond.constant RX7 105 (-1000000002) ∈ wsX7_seed := List.mem_of_getElem? (i := 1) rfl
theorem lkX7_seed_2 : Cond.fieldLink RX7 40 "TwiceHeard" "draws" "LTwiceHeard$Draws;" ∈ wsX7_seed := List.mem_of_getElem? (i := 2) rfl
theorem lkX7_seed_3 : Cond.fieldLink RX7 102 "TwiceHeard$Draws" "seed" "I" ∈ wsX7_seed := List.mem_of_getElem? (i := 3) rfl
theorem inX7_seed_X7 : ∀ w ∈ wsX70, w ∈ wsX7_seed := fun w h => List.mem_cons_of_mem _ (List.mem_append_left _ (List.mem_append_right _ h))
theorem inX7_seed_X1 : ∀ w ∈ wsX10, w ∈ wsX7_seed := fun w h => List.mem_cons_of_mem _ (List.mem_append_right _ h)
abbrev rmX7_seed : Room := { frames := 0, cells := 0, slots := 0, locals := 0 }
theorem hdX7_seed : yX7_seed.cls = RX7 ∧ yX7_seed.cls ≠ "java/lang/invoke/MethodHandle" ∧ yX7_seed.cls ≠ "java/lang/invoke/VarHandle" ∧ (parseMethodDescriptor yX7_seed.desc).map (fun d => d.parameters.length) = some 1 := by decide +kernel
def fX7_seed (sd : Int32) (v1 : Int32) : Option (Int32 × Int32) :=
  if 0 ≤ v1 then (
  some (sd, v1)) else (
  some ((-1000000002 : Int32), sd))
set_option maxRecDepth 100000 in
set_option maxHeartbeats 4000000 in
theorem kX7_seed (l : Launch) (D : va_G) (cI cJ cZ cN cM : ClassId) (xa : Nat → Nat) (na : Nat → Nat) (pa : Nat → Nat) (ta : Nat → Nat) (ba : Nat → Nat) (da : Nat → Nat) (ia : Nat → Nat) (rc : (Nat → Int64)) (sd : Int32) (v1 : Int32) (r : Int32) (sd_o : Int32) (hf : fX7_seed sd v1 = some (r, sd_o)) : MetI l yX7_seed wsX7_seed rmX7_seed D (TYL cI cJ cZ cN cM) [.ref (xa 0), .int v1] (List.flatten [xW cI cJ cZ cN cM xa na pa ta ba da ia rc, dW cI cJ cZ cN cM da sd]) (List.flatten [xW cI cJ cZ cN cM xa na pa ta ba da ia rc, dW cI cJ cZ cN cM da sd_o]) r := by
  refine MetI.mk (cc := cX7_seed) (maxL := 3) (own := RX7) (ty := .int) [(0, .ref (xa 0)), (1, .int v1)] (by decide +kernel) rfl rfl (Nat.le_of_ble_eq_true rfl) rfl ?_
  intro p e s m args below meth c A Q C hret
  unfold fX7_seed at hf
  refine q_iload_n C 1 dX7_seed_0 rfl ?_
  refine q_if_ge C 7 dX7_seed_1 (by decide) hf (fun hf => ?_) (fun hf => ?_)
  · refine q_aload_n C 0 dX7_seed_7 rfl ?_
    refine q_get C 0 4 dX7_seed_8 rfl rfl (Nat.le_of_ble_eq_true rfl) inX7_seed_X7 lkX7_seed_2 rfl rfl ?_
    refine q_get C 2 0 dX7_seed_11 rfl rfl (Nat.le_of_ble_eq_true rfl) inX7_seed_X1 lkX7_seed_3 rfl rfl ?_
    refine q_istore_n C [(2, .int sd), (0, .ref (xa 0)), (1, .int v1)] dX7_seed_14 (by decide) rfl ?_
    refine q_aload_n C 1 dX7_seed_15 rfl ?_
    refine q_get C 0 4 dX7_seed_16 rfl rfl (Nat.le_of_ble_eq_true rfl) inX7_seed_X7 lkX7_seed_2 rfl rfl ?_
    refine q_iload_n C 2 dX7_seed_19 rfl ?_
    refine q_put C 2 0 (List.flatten [xW cI cJ cZ cN cM xa na pa ta ba da ia rc, dW cI cJ cZ cN cM da v1]) dX7_seed_20 rfl rfl (Nat.le_of_ble_eq_true rfl) inX7_seed_X1 tyX1 tyX1_ok nmX1 lkX7_seed_3 rfl rfl rfl rfl (Nat.le_of_ble_eq_true rfl) rfl ?_
    refine q_iload_n C 0 dX7_seed_23 rfl ?_
    have hy0 := Option.some.inj hf
    clear hf
    obtain ⟨hz1, hy1⟩ := Prod.mk.inj hy0
    clear hy0
    subst hz1
    subst hy1
    exact hret _ _ dX7_seed_24 rfl
  · refine q_ldc C dX7_seed_4 lkX7_seed_1 ?_
    have hy0 := Option.some.inj hf
    clear hf
    obtain ⟨hz1, hy1⟩ := Prod.mk.inj hy0
    clear hy0
    subst hz1
    subst hy1
    exact hret _ _ dX7_seed_6 rfl

theorem lkX4_forget_1 : Cond.fieldLink RX4 26 "TwiceHeard$Past" "size" "I" ∈ wsX4_forget := List.mem_of_getElem? (i := 1) rfl
theorem inX4_forget_X4 : ∀ w ∈ wsX40, w ∈ wsX4_forget := fun w h => List.mem_cons_of_mem _ (List.mem_append_right _ h)
abbrev rmX4_forget : Room := { frames := 0, cells := 0, slots := 0, locals := 0 }
theorem hdX4_forget : yX4_forget.cls = RX4 ∧ yX4_forget.cls ≠ "java/lang/invoke/MethodHandle" ∧ yX4_forget.cls ≠ "java/lang/invoke/VarHandle" ∧ (parseMethodDescriptor yX4_forget.desc).map (fun d => d.parameters.length) = some 0 := by decide +kernel
def fX4_forget (pz : Int32)  : Option (Int32) :=
  some (0 : Int32)
set_option maxRecDepth 100000 in
set_option maxHeartbeats 4000000 in
theorem kX4_forget (l : Launch) (D : va_G) (cI cJ cZ cN cM : ClassId) (pa : Nat → Nat) (ga : Nat → Nat) (pz : Int32) (pn : Int32)  (pz_o : Int32) (hf : fX4_forget pz = some pz_o) : MetV l yX4_forget wsX4_forget rmX4_forget D (TYL cI cJ cZ cN cM) [.ref (pa 0)] (pW cI cJ cZ cN cM pa ga pz pn) (pW cI cJ cZ cN cM pa ga pz_o pn) := by
  refine MetV.mk (cc := cX4_forget) (maxL := 1) (own := RX4) [(0, .ref (pa 0))] (by decide +kernel) rfl rfl (Nat.le_of_ble_eq_true rfl) rfl ?_
  intro p e s m args below meth c A Q C hret
  unfold fX4_forget at hf
  refine q_aload_n C 0 dX4_forget_0 rfl ?_
  refine q_iconst C 0 dX4_forget_1 (by decide) ?_
  refine q_put C 0 1 (pW cI cJ cZ cN cM pa ga (0 : Int32) pn) dX4_forget_2 rfl rfl (Nat.le_of_ble_eq_true rfl) inX4_forget_X4 tyX4 tyX4_ok nmX4 lkX4_forget_1 rfl rfl rfl rfl (Nat.le_of_ble_eq_true rfl) rfl ?_
  have hz1 := Option.some.inj hf
  clear hf
  subst hz1
  exact hret _ _ dX4_forget_5

theorem lkX7_keep_1 : Cond.constant RX7 110 (-1000000001) ∈ wsX7_keep := List.mem_of_getElem? (i := 1) rfl
theorem lkX7_keep_2 : Cond.fieldLink RX7 46 "TwiceHeard" "images" "[LTwiceHeard$Image;" ∈ wsX7_keep := List.mem_of_getElem? (i := 2) rfl
theorem lkX7_keep_3 : Cond.fieldLink RX7 222 "TwiceHeard$Image" "kept" "Z" ∈ wsX7_keep := List.mem_of_getElem? (i := 3) rfl
theorem lkX7_keep_4 : Cond.fieldLink RX7 40 "TwiceHeard" "draws" "LTwiceHeard$Draws;" ∈ wsX7_keep := List.mem_of_getElem? (i := 4) rfl
theorem lkX7_keep_5 : Cond.fieldLink RX7 102 "TwiceHeard$Draws" "seed" "I" ∈ wsX7_keep := List.mem_of_getElem? (i := 5) rfl
theorem lkX7_keep_6 : Cond.fieldLink RX7 226 "TwiceHeard$Image" "seed" "I" ∈ wsX7_keep := List.mem_of_getElem? (i := 6) rfl
theorem lkX7_keep_7 : Cond.fieldLink RX7 227 "TwiceHeard$Image" "net" "LTwiceHeard$Net;" ∈ wsX7_keep := List.mem_of_getElem? (i := 7) rfl
theorem lkX7_keep_8 : Cond.fieldLink RX7 10 "TwiceHeard" "net" "LTwiceHeard$Net;" ∈ wsX7_keep := List.mem_of_getElem? (i := 8) rfl
theorem lkX7_keep_9 : Cond.fieldLink RX7 19 "TwiceHeard" "past" "LTwiceHeard$Past;" ∈ wsX7_keep := List.mem_of_getElem? (i := 9) rfl
theorem inX7_keep_X7 : ∀ w ∈ wsX70, w ∈ wsX7_keep := fun w h => List.mem_cons_of_mem _ (List.mem_append_left _ (List.mem_append_left _ (List.mem_append_left _ (List.mem_append_left _ (List.mem_append_right _ h)))))
theorem inX7_keep_X2 : ∀ w ∈ wsX20, w ∈ wsX7_keep := fun w h => List.mem_cons_of_mem _ (List.mem_append_left _ (List.mem_append_left _ (List.mem_append_left _ (List.mem_append_right _ h))))
theorem inX7_keep_X1 : ∀ w ∈ wsX10, w ∈ wsX7_keep := fun w h => List.mem_cons_of_mem _ (List.mem_append_left _ (List.mem_append_left _ (List.mem_append_right _ h)))
theorem inX7_keep_X3 : ∀ w ∈ wsX30, w ∈ wsX7_keep := fun w h => List.mem_cons_of_mem _ (List.mem_append_left _ (List.mem_append_right _ h))
theorem inX7_keep_X4 : ∀ w ∈ wsX40, w ∈ wsX7_keep := fun w h => List.mem_cons_of_mem _ (List.mem_append_right _ h)
abbrev rmX7_keep : Room := { frames := 2, cells := 0, slots := 0, locals := 61 }
theorem hdX7_keep : yX7_keep.cls = RX7 ∧ yX7_keep.cls ≠ "java/lang/invoke/MethodHandle" ∧ yX7_keep.cls ≠ "java/lang/invoke/VarHandle" ∧ (parseMethodDescriptor yX7_keep.desc).map (fun d => d.parameters.length) = some 1 := by decide +kernel
def fX7_keep (sz : Int32) (sa : Int32) (mo : Int32) (li : (Nat → Int32)) (lo : (Nat → Int32)) (he : (Nat → Int32)) (pz : Int32) (ik : (Nat → Int32)) (is_ : (Nat → Int32)) (isz : (Nat → Int32)) (isa : (Nat → Int32)) (imo : (Nat → Int32)) (ili : (Nat → Nat → Int32)) (ilo : (Nat → Nat → Int32)) (ihe : (Nat → Nat → Int32)) (sd : Int32) (v1 : Int32) : Option (Int32 × Int32 × (Nat → Int32) × (Nat → Int32) × (Nat → Int32) × (Nat → Int32) × (Nat → Int32) × (Nat → Nat → Int32) × (Nat → Nat → Int32) × (Nat → Nat → Int32)) :=
  (fX7_within v1 (0 : Int32) (1 : Int32)).bind fun x3 =>
  if x3 = 0 then (
  some ((-1000000001 : Int32), pz, ik, is_, isz, isa, imo, ili, ilo, ihe)) else (
  (ixN 2 v1).bind fun j17 =>
  (ixN 2 v1).bind fun j27 =>
  (ixN 2 v1).bind fun j43 =>
  bd6 (fX3_become (isz j43) (isa j43) (imo j43) (ili j43) (ilo j43) (ihe j43) sz sa mo li lo he) fun isz_51 isa_51 imo_51 ili_51 ilo_51 ihe_51 =>
  (fX4_forget pz).bind fun pz_58 =>
  some ((1 : Int32), pz_58, (upd ik j17 (1 : Int32)), (upd is_ j27 sd), (upd isz j43 isz_51), (upd isa j43 isa_51), (upd imo j43 imo_51), (va_up ili j43 ili_51), (va_up ilo j43 ilo_51), (va_up ihe j43 ihe_51)))
set_option maxRecDepth 100000 in
set_option maxHeartbeats 4000000 in
theorem kX7_keep (l : Launch) (D : va_G) (cI cJ cZ cN cM : ClassId) (xa : Nat → Nat) (na : Nat → Nat) (pa : Nat → Nat) (ta : Nat → Nat) (ba : Nat → Nat) (da : Nat → Nat) (ia : Nat → Nat) (ga : Nat → Nat) (rc : (Nat → Int64)) (sz : Int32) (sa : Int32) (mo : Int32) (li : (Nat → Int32)) (lo : (Nat → Int32)) (he : (Nat → Int32)) (pz : Int32) (pn : Int32) (ik : (Nat → Int32)) (is_ : (Nat → Int32)) (isz : (Nat → Int32)) (isa : (Nat → Int32)) (imo : (Nat → Int32)) (ili : (Nat → Nat → Int32)) (ilo : (Nat → Nat → Int32)) (ihe : (Nat → Nat → Int32)) (sd : Int32) (v1 : Int32) (r : Int32) (pz_o : Int32) (ik_o : (Nat → Int32)) (is__o : (Nat → Int32)) (isz_o : (Nat → Int32)) (isa_o : (Nat → Int32)) (imo_o : (Nat → Int32)) (ili_o : (Nat → Nat → Int32)) (ilo_o : (Nat → Nat → Int32)) (ihe_o : (Nat → Nat → Int32)) (hf : fX7_keep sz sa mo li lo he pz ik is_ isz isa imo ili ilo ihe sd v1 = some (r, pz_o, ik_o, is__o, isz_o, isa_o, imo_o, ili_o, ilo_o, ihe_o)) : MetI l yX7_keep wsX7_keep rmX7_keep D (TYL cI cJ cZ cN cM) [.ref (xa 0), .int v1] (List.flatten [xW cI cJ cZ cN cM xa na pa ta ba da ia rc, nW cI cJ cZ cN cM na sz sa mo li lo he, pW cI cJ cZ cN cM pa ga pz pn, iW cI cJ cZ cN cM ia ik is_ isz isa imo ili ilo ihe, dW cI cJ cZ cN cM da sd]) (List.flatten [xW cI cJ cZ cN cM xa na pa ta ba da ia rc, nW cI cJ cZ cN cM na sz sa mo li lo he, pW cI cJ cZ cN cM pa ga pz_o pn, iW cI cJ cZ cN cM ia ik_o is__o isz_o isa_o imo_o ili_o ilo_o ihe_o, dW cI cJ cZ cN cM da sd]) r := by
  refine MetI.mk (cc := cX7_keep) (maxL := 2) (own := RX7) (ty := .int) [(0, .ref (xa 0)), (1, .int v1)] (by decide +kernel) rfl rfl (Nat.le_of_ble_eq_true rfl) rfl ?_
  intro p e s m args below meth c A Q C hret
  unfold fX7_keep at hf
  refine q_iload_n C 1 dX7_keep_0 rfl ?_
  refine q_iconst C 0 dX7_keep_1 (by decide) ?_
  refine q_iconst C 1 dX7_keep_2 (by decide) ?_
  obtain ⟨x3, hM, hf⟩ := bd_e hf
  refine q_callSI C (List.flatten [xW cI cJ cZ cN cM xa na pa ta ba da ia rc, nW cI cJ cZ cN cM na sz sa mo li lo he, pW cI cJ cZ cN cM pa ga pz pn, iW cI cJ cZ cN cM ia ik is_ isz isa imo ili ilo ihe, dW cI cJ cZ cN cM da sd]) (kX7_within l D cI cJ cZ cN cM   v1 (0 : Int32) (1 : Int32) x3 hM) (va_cwS 3 C.1.2.2.2.2 gX7_keep_X7_within rfl rfl rfl hdX7_within ⟨Nat.le_of_ble_eq_true rfl, Nat.le_of_ble_eq_true rfl⟩) FrX.none rfl rfl (Nat.le_of_ble_eq_true rfl) dX7_keep_3 ⟨Nat.zero_le _, Nat.zero_le _⟩ ?_
  refine q_if_ne C 12 dX7_keep_6 (by decide) hf (fun hf => ?_) (fun hf => ?_)
  · refine q_aload_n C 0 dX7_keep_12 rfl ?_
    refine q_get C 0 5 dX7_keep_13 rfl rfl (Nat.le_of_ble_eq_true rfl) inX7_keep_X7 lkX7_keep_2 rfl rfl ?_
    refine q_iload_n C 1 dX7_keep_16 rfl ?_
    refine q_aaldB C (fun j => ia (1 + 5 * j)) 7 4 dX7_keep_17 rfl rfl (fun _ => rfl) hf (fun j17 hj17 hf => ?_)
    refine q_iconst C 1 dX7_keep_18 (by decide) ?_
    refine q_put C (8 + 5 * j17) 0 (List.flatten [xW cI cJ cZ cN cM xa na pa ta ba da ia rc, nW cI cJ cZ cN cM na sz sa mo li lo he, pW cI cJ cZ cN cM pa ga pz pn, iW cI cJ cZ cN cM ia (upd ik j17 (1 : Int32)) is_ isz isa imo ili ilo ihe, dW cI cJ cZ cN cM da sd]) dX7_keep_19 (co_2x (P := fun j17 => (List.flatten [xW cI cJ cZ cN cM xa na pa ta ba da ia rc, nW cI cJ cZ cN cM na sz sa mo li lo he, pW cI cJ cZ cN cM pa ga pz pn, iW cI cJ cZ cN cM ia ik is_ isz isa imo ili ilo ihe, dW cI cJ cZ cN cM da sd])[(8 + 5 * j17)]? = some (ia (1 + 5 * j17), .inr (2, [.int (ik j17), .int (is_ j17), .ref (ia (2 + 5 * j17))]))) rfl rfl hj17) rfl (Nat.le_of_ble_eq_true rfl) inX7_keep_X2 tyX2 tyX2_ok nmX2 lkX7_keep_3 rfl rfl (by decide) rfl (Nat.le_of_ble_eq_true rfl) (co_2x (P := fun j17 => (List.flatten [xW cI cJ cZ cN cM xa na pa ta ba da ia rc, nW cI cJ cZ cN cM na sz sa mo li lo he, pW cI cJ cZ cN cM pa ga pz pn, iW cI cJ cZ cN cM ia ik is_ isz isa imo ili ilo ihe, dW cI cJ cZ cN cM da sd]).set (8 + 5 * j17) (ia (1 + 5 * j17), .inr (2, [.int (1 : Int32), .int (is_ j17), .ref (ia (2 + 5 * j17))])) = List.flatten [xW cI cJ cZ cN cM xa na pa ta ba da ia rc, nW cI cJ cZ cN cM na sz sa mo li lo he, pW cI cJ cZ cN cM pa ga pz pn, iW cI cJ cZ cN cM ia (upd ik j17 (1 : Int32)) is_ isz isa imo ili ilo ihe, dW cI cJ cZ cN cM da sd]) rfl rfl hj17) ?_
    refine q_aload_n C 0 dX7_keep_22 rfl ?_
    refine q_get C 0 5 dX7_keep_23 rfl rfl (Nat.le_of_ble_eq_true rfl) inX7_keep_X7 lkX7_keep_2 rfl rfl ?_
    refine q_iload_n C 1 dX7_keep_26 rfl ?_
    refine q_aaldB C (fun j => ia (1 + 5 * j)) 7 4 dX7_keep_27 rfl rfl (fun _ => rfl) hf (fun j27 hj27 hf => ?_)
    refine q_aload_n C 0 dX7_keep_28 rfl ?_
    refine q_get C 0 4 dX7_keep_29 rfl rfl (Nat.le_of_ble_eq_true rfl) inX7_keep_X7 lkX7_keep_4 rfl rfl ?_
    refine q_get C 18 0 dX7_keep_32 rfl rfl (Nat.le_of_ble_eq_true rfl) inX7_keep_X1 lkX7_keep_5 rfl rfl ?_
    refine q_put C (8 + 5 * j27) 1 (List.flatten [xW cI cJ cZ cN cM xa na pa ta ba da ia rc, nW cI cJ cZ cN cM na sz sa mo li lo he, pW cI cJ cZ cN cM pa ga pz pn, iW cI cJ cZ cN cM ia (upd ik j17 (1 : Int32)) (upd is_ j27 sd) isz isa imo ili ilo ihe, dW cI cJ cZ cN cM da sd]) dX7_keep_35 (co_2x (P := fun j27 => (List.flatten [xW cI cJ cZ cN cM xa na pa ta ba da ia rc, nW cI cJ cZ cN cM na sz sa mo li lo he, pW cI cJ cZ cN cM pa ga pz pn, iW cI cJ cZ cN cM ia (upd ik j17 (1 : Int32)) is_ isz isa imo ili ilo ihe, dW cI cJ cZ cN cM da sd])[(8 + 5 * j27)]? = some (ia (1 + 5 * j27), .inr (2, [.int ((upd ik j17 (1 : Int32)) j27), .int (is_ j27), .ref (ia (2 + 5 * j27))]))) rfl rfl hj27) rfl (Nat.le_of_ble_eq_true rfl) inX7_keep_X2 tyX2 tyX2_ok nmX2 lkX7_keep_6 rfl rfl rfl rfl (Nat.le_of_ble_eq_true rfl) (co_2x (P := fun j27 => (List.flatten [xW cI cJ cZ cN cM xa na pa ta ba da ia rc, nW cI cJ cZ cN cM na sz sa mo li lo he, pW cI cJ cZ cN cM pa ga pz pn, iW cI cJ cZ cN cM ia (upd ik j17 (1 : Int32)) is_ isz isa imo ili ilo ihe, dW cI cJ cZ cN cM da sd]).set (8 + 5 * j27) (ia (1 + 5 * j27), .inr (2, [.int ((upd ik j17 (1 : Int32)) j27), .int sd, .ref (ia (2 + 5 * j27))])) = List.flatten [xW cI cJ cZ cN cM xa na pa ta ba da ia rc, nW cI cJ cZ cN cM na sz sa mo li lo he, pW cI cJ cZ cN cM pa ga pz pn, iW cI cJ cZ cN cM ia (upd ik j17 (1 : Int32)) (upd is_ j27 sd) isz isa imo ili ilo ihe, dW cI cJ cZ cN cM da sd]) rfl rfl hj27) ?_
    refine q_aload_n C 0 dX7_keep_38 rfl ?_
    refine q_get C 0 5 dX7_keep_39 rfl rfl (Nat.le_of_ble_eq_true rfl) inX7_keep_X7 lkX7_keep_2 rfl rfl ?_
    refine q_iload_n C 1 dX7_keep_42 rfl ?_
    refine q_aaldB C (fun j => ia (1 + 5 * j)) 7 4 dX7_keep_43 rfl rfl (fun _ => rfl) hf (fun j43 hj43 hf => ?_)
    refine q_get C (8 + 5 * j43) 2 dX7_keep_44 (co_2x (P := fun j43 => (List.flatten [xW cI cJ cZ cN cM xa na pa ta ba da ia rc, nW cI cJ cZ cN cM na sz sa mo li lo he, pW cI cJ cZ cN cM pa ga pz pn, iW cI cJ cZ cN cM ia (upd ik j17 (1 : Int32)) (upd is_ j27 sd) isz isa imo ili ilo ihe, dW cI cJ cZ cN cM da sd])[(8 + 5 * j43)]? = some (ia (1 + 5 * j43), .inr (2, [.int ((upd ik j17 (1 : Int32)) j43), .int ((upd is_ j27 sd) j43), .ref (ia (2 + 5 * j43))]))) rfl rfl hj43) rfl (Nat.le_of_ble_eq_true rfl) inX7_keep_X2 lkX7_keep_7 rfl rfl ?_
    refine q_aload_n C 0 dX7_keep_47 rfl ?_
    refine q_get C 0 0 dX7_keep_48 rfl rfl (Nat.le_of_ble_eq_true rfl) inX7_keep_X7 lkX7_keep_8 rfl rfl ?_
    obtain ⟨isz_51, isa_51, imo_51, ili_51, ilo_51, ihe_51, hM, hf⟩ := bd6_e hf
    refine q_callVV C (List.flatten [xW cI cJ cZ cN cM xa na pa ta ba da ia rc, nW cI cJ cZ cN cM na sz sa mo li lo he, pW cI cJ cZ cN cM pa ga pz pn, iW cI cJ cZ cN cM ia (upd ik j17 (1 : Int32)) (upd is_ j27 sd) (upd isz j43 isz_51) (upd isa j43 isa_51) (upd imo j43 imo_51) (va_up ili j43 ili_51) (va_up ilo j43 ilo_51) (va_up ihe j43 ihe_51), dW cI cJ cZ cN cM da sd]) (kX3_become l D cI cJ cZ cN cM (fun i => ia (2 + 5 * j43 + i)) na (isz j43) (isa j43) (imo j43) (ili j43) (ilo j43) (ihe j43) sz sa mo li lo he  isz_51 isa_51 imo_51 ili_51 ilo_51 ihe_51 hM) (cwV 1 C.1.2.2.2.2 gX7_keep_X3_become rfl rfl rfl hdX3_become ⟨Nat.le_of_ble_eq_true rfl, Nat.le_of_ble_eq_true rfl⟩) (9 + 5 * j43) 3 (co_2x (P := fun j43 => (List.flatten [xW cI cJ cZ cN cM xa na pa ta ba da ia rc, nW cI cJ cZ cN cM na sz sa mo li lo he, pW cI cJ cZ cN cM pa ga pz pn, iW cI cJ cZ cN cM ia (upd ik j17 (1 : Int32)) (upd is_ j27 sd) isz isa imo ili ilo ihe, dW cI cJ cZ cN cM da sd])[(9 + 5 * j43)]? = some (ia (2 + 5 * j43), .inr (3, [.int (isz j43), .int (isa j43), .int (imo j43), .ref (ia (2 + 5 * j43 + 1)), .ref (ia (2 + 5 * j43 + 2)), .ref (ia (2 + 5 * j43 + 3))]))) rfl rfl hj43) rfl (co_2x (P := fun j43 => FrX (List.flatten [xW cI cJ cZ cN cM xa na pa ta ba da ia rc, nW cI cJ cZ cN cM na sz sa mo li lo he, pW cI cJ cZ cN cM pa ga pz pn, iW cI cJ cZ cN cM ia (upd ik j17 (1 : Int32)) (upd is_ j27 sd) isz isa imo ili ilo ihe, dW cI cJ cZ cN cM da sd]) (List.flatten [nW cI cJ cZ cN cM (fun i => ia (2 + 5 * j43 + i)) (isz j43) (isa j43) (imo j43) (ili j43) (ilo j43) (ihe j43), nW cI cJ cZ cN cM na sz sa mo li lo he]) (List.flatten [nW cI cJ cZ cN cM (fun i => ia (2 + 5 * j43 + i)) isz_51 isa_51 imo_51 ili_51 ilo_51 ihe_51, nW cI cJ cZ cN cM na sz sa mo li lo he]) (List.flatten [xW cI cJ cZ cN cM xa na pa ta ba da ia rc, nW cI cJ cZ cN cM na sz sa mo li lo he, pW cI cJ cZ cN cM pa ga pz pn, iW cI cJ cZ cN cM ia (upd ik j17 (1 : Int32)) (upd is_ j27 sd) (upd isz j43 isz_51) (upd isa j43 isa_51) (upd imo j43 imo_51) (va_up ili j43 ili_51) (va_up ilo j43 ilo_51) (va_up ihe j43 ihe_51), dW cI cJ cZ cN cM da sd])) (FrX.ofB [9, 10, 11, 12, 2, 3, 4, 5] [0, 1, 6, 7, 8, 13, 14, 15, 16, 17, 18] [0, 1, 15, 16, 17, 18, 2, 3, 4, 11, 12, 13, 14, 5, 6, 7, 8, 9, 10] rfl rfl rfl rfl rfl rfl rfl) (FrX.ofB [14, 15, 16, 17, 2, 3, 4, 5] [0, 1, 6, 7, 8, 9, 10, 11, 12, 13, 18] [0, 1, 15, 16, 17, 18, 2, 3, 4, 5, 6, 7, 8, 9, 11, 12, 13, 14, 10] rfl rfl rfl rfl rfl rfl rfl) hj43) rfl rfl (Nat.le_of_ble_eq_true rfl) dX7_keep_51 ⟨Nat.zero_le _, Nat.zero_le _⟩ ?_
    refine q_aload_n C 0 dX7_keep_54 rfl ?_
    refine q_get C 0 1 dX7_keep_55 rfl rfl (Nat.le_of_ble_eq_true rfl) inX7_keep_X7 lkX7_keep_9 rfl rfl ?_
    obtain ⟨pz_58, hM, hf⟩ := bd_e hf
    refine q_callVV C (List.flatten [xW cI cJ cZ cN cM xa na pa ta ba da ia rc, nW cI cJ cZ cN cM na sz sa mo li lo he, pW cI cJ cZ cN cM pa ga pz_58 pn, iW cI cJ cZ cN cM ia (upd ik j17 (1 : Int32)) (upd is_ j27 sd) (upd isz j43 isz_51) (upd isa j43 isa_51) (upd imo j43 imo_51) (va_up ili j43 ili_51) (va_up ilo j43 ilo_51) (va_up ihe j43 ihe_51), dW cI cJ cZ cN cM da sd]) (kX4_forget l D cI cJ cZ cN cM pa ga pz pn  pz_58 hM) (cwV 0 C.1.2.2.2.2 gX7_keep_X4_forget rfl rfl rfl hdX4_forget ⟨Nat.le_of_ble_eq_true rfl, Nat.le_of_ble_eq_true rfl⟩) 6 4 rfl rfl (FrX.blk [xW cI cJ cZ cN cM xa na pa ta ba da ia rc, nW cI cJ cZ cN cM na sz sa mo li lo he, pW cI cJ cZ cN cM pa ga pz pn, iW cI cJ cZ cN cM ia (upd ik j17 (1 : Int32)) (upd is_ j27 sd) (upd isz j43 isz_51) (upd isa j43 isa_51) (upd imo j43 imo_51) (va_up ili j43 ili_51) (va_up ilo j43 ilo_51) (va_up ihe j43 ihe_51), dW cI cJ cZ cN cM da sd] [xW cI cJ cZ cN cM xa na pa ta ba da ia rc, nW cI cJ cZ cN cM na sz sa mo li lo he, pW cI cJ cZ cN cM pa ga pz_58 pn, iW cI cJ cZ cN cM ia (upd ik j17 (1 : Int32)) (upd is_ j27 sd) (upd isz j43 isz_51) (upd isa j43 isa_51) (upd imo j43 imo_51) (va_up ili j43 ili_51) (va_up ilo j43 ilo_51) (va_up ihe j43 ihe_51), dW cI cJ cZ cN cM da sd] [2] [0, 1, 3, 4] 5 rfl rfl (by decide) rfl (List.append_nil _) (List.append_nil _)) rfl rfl (Nat.le_of_ble_eq_true rfl) dX7_keep_58 ⟨Nat.zero_le _, Nat.zero_le _⟩ ?_
    refine q_iconst C 1 dX7_keep_61 (by decide) ?_
    have hy0 := Option.some.inj hf
    clear hf
    obtain ⟨hz1, hy1⟩ := Prod.mk.inj hy0
    clear hy0
    obtain ⟨hz2, hy2⟩ := Prod.mk.inj hy1
    clear hy1
    obtain ⟨hz3, hy3⟩ := Prod.mk.inj hy2
    clear hy2
    obtain ⟨hz4, hy4⟩ := Prod.mk.inj hy3
    clear hy3
    obtain ⟨hz5, hy5⟩ := Prod.mk.inj hy4
    clear hy4
    obtain ⟨hz6, hy6⟩ := Prod.mk.inj hy5
    clear hy5
    obtain ⟨hz7, hy7⟩ := Prod.mk.inj hy6
    clear hy6
    obtain ⟨hz8, hy8⟩ := Prod.mk.inj hy7
    clear hy7
    obtain ⟨hz9, hy9⟩ := Prod.mk.inj hy8
    clear hy8
    subst hz1
    subst hz2
    subst hz3
    subst hz4
    subst hz5
    subst hz6
    subst hz7
    subst hz8
    subst hz9
    subst hy9
    exact hret _ _ dX7_keep_62 rfl
  · refine q_ldc C dX7_keep_9 lkX7_keep_1 ?_
    have hy0 := Option.some.inj hf
    clear hf
    obtain ⟨hz1, hy1⟩ := Prod.mk.inj hy0
    clear hy0
    obtain ⟨hz2, hy2⟩ := Prod.mk.inj hy1
    clear hy1
    obtain ⟨hz3, hy3⟩ := Prod.mk.inj hy2
    clear hy2
    obtain ⟨hz4, hy4⟩ := Prod.mk.inj hy3
    clear hy3
    obtain ⟨hz5, hy5⟩ := Prod.mk.inj hy4
    clear hy4
    obtain ⟨hz6, hy6⟩ := Prod.mk.inj hy5
    clear hy5
    obtain ⟨hz7, hy7⟩ := Prod.mk.inj hy6
    clear hy6
    obtain ⟨hz8, hy8⟩ := Prod.mk.inj hy7
    clear hy7
    obtain ⟨hz9, hy9⟩ := Prod.mk.inj hy8
    clear hy8
    subst hz1
    subst hz2
    subst hz3
    subst hz4
    subst hz5
    subst hz6
    subst hz7
    subst hz8
    subst hz9
    subst hy9
    exact hret _ _ dX7_keep_11 rfl
