theorem lkX8_at_1 : Cond.constant RX8 180 (-1000000001) ∈ wsX8_at := List.mem_of_getElem? (i := 1) rfl
theorem lkX8_at_2 : Cond.fieldLink RX8 22 "TwiceHeardModel" "ring" "[I" ∈ wsX8_at := List.mem_of_getElem? (i := 2) rfl
theorem lkX8_at_3 : Cond.fieldLink RX8 9 "TwiceHeardModel" "w" "[I" ∈ wsX8_at := List.mem_of_getElem? (i := 3) rfl
theorem lkX8_at_4 : Cond.fieldLink RX8 31 "TwiceHeardModel" "ways" "[I" ∈ wsX8_at := List.mem_of_getElem? (i := 4) rfl
theorem lkX8_at_5 : Cond.constant RX8 179 (-1000000002) ∈ wsX8_at := List.mem_of_getElem? (i := 5) rfl
theorem inX8_at_X8 : ∀ w ∈ wsX80, w ∈ wsX8_at := fun w h => List.mem_cons_of_mem _ (List.mem_append_right _ h)
abbrev rmX8_at : Room := { frames := 5, cells := 0, slots := 0, locals := 113 }
theorem hdX8_at : yX8_at.cls = RX8 ∧ yX8_at.cls ≠ "java/lang/invoke/MethodHandle" ∧ yX8_at.cls ≠ "java/lang/invoke/VarHandle" ∧ (parseMethodDescriptor yX8_at.desc).map (fun d => d.parameters.length) = some 2 := by decide +kernel
def fX8_at (w : (Nat → Int32)) (ri : (Nat → Int32)) (fm : (Nat → Int32)) (tt : (Nat → Int32)) (le : Int32) (wa : (Nat → Int32)) (v1 : Int32) (v2 : Int32) : Option (Int32 × (Nat → Int32) × (Nat → Int32) × (Nat → Int32) × Int32 × (Nat → Int32)) :=
  (fX8_isNode w v1).bind fun x2 =>
  if x2 = 0 then (
  some ((-1000000001 : Int32), ri, fm, tt, le, wa)) else (
  bd5 (fX8_layWays w ri fm tt le wa) fun ri_12 fm_12 tt_12 le_12 wa_12 =>
  if v2 = (0 : Int32) then (
  (rdI 9 ri_12 v1).bind fun x61 =>
  some (x61, ri_12, fm_12, tt_12, le_12, wa_12)) else (
  if v2 = (1 : Int32) then (
  (rdI 570 w ((3 : Int32) + v1)).bind fun x70 =>
  some (x70, ri_12, fm_12, tt_12, le_12, wa_12)) else (
  if v2 = (2 : Int32) then (
  (fX8_upper w ri_12 v1).bind fun x74 =>
  some (x74, ri_12, fm_12, tt_12, le_12, wa_12)) else (
  if v2 = (3 : Int32) then (
  (rdI 570 w ((21 : Int32) + v1)).bind fun x86 =>
  some (x86, ri_12, fm_12, tt_12, le_12, wa_12)) else (
  if v2 = (4 : Int32) then (
  (rdI 9 wa_12 v1).bind fun x93 =>
  some (x93, ri_12, fm_12, tt_12, le_12, wa_12)) else (
  if v2 = (5 : Int32) then (
  bd5 (fX8_lettersTo w ri_12 fm_12 tt_12 le_12 v1) fun x97 ri_97 fm_97 tt_97 le_97 =>
  some (x97, ri_97, fm_97, tt_97, le_97, wa_12)) else (
  some ((-1000000002 : Int32), ri_12, fm_12, tt_12, le_12, wa_12))))))))
set_option maxRecDepth 100000 in
set_option maxHeartbeats 4000000 in
theorem kX8_at (l : Launch) (D : va_G) (cI cJ cZ cN cM : ClassId) (a : Nat → Nat) (w : (Nat → Int32)) (kn : Int32) (kp : Int32) (sd : Int32) (ks : (Nat → Int32)) (bo : (Nat → Int32)) (bi : (Nat → Int32)) (bk : Int32) (ri : (Nat → Int32)) (fm : (Nat → Int32)) (tt : (Nat → Int32)) (le : Int32) (wa : (Nat → Int32)) (hd : (Nat → Int64)) (sx : (Nat → Int32)) (b1 : (Nat → Int64)) (b2 : (Nat → Int64)) (v1 : Int32) (v2 : Int32) (r : Int32) (ri_o : (Nat → Int32)) (fm_o : (Nat → Int32)) (tt_o : (Nat → Int32)) (le_o : Int32) (wa_o : (Nat → Int32)) (hf : fX8_at w ri fm tt le wa v1 v2 = some (r, ri_o, fm_o, tt_o, le_o, wa_o)) : MetI l yX8_at wsX8_at rmX8_at D (TYL cI cJ cZ cN cM) [.ref (a 0), .int v1, .int v2] (mW cI cJ cZ cN cM a w kn kp sd ks bo bi bk ri fm tt le wa hd sx b1 b2) (mW cI cJ cZ cN cM a w kn kp sd ks bo bi bk ri_o fm_o tt_o le_o wa_o hd sx b1 b2) r := by
  refine MetI.mk (cc := cX8_at) (maxL := 3) (own := RX8) (ty := .int) [(0, .ref (a 0)), (1, .int v1), (2, .int v2)] (by decide +kernel) rfl rfl (Nat.le_of_ble_eq_true rfl) rfl ?_
  intro p e s m args below meth c A Q C hret
  unfold fX8_at at hf
  refine q_aload_n C 0 dX8_at_0 rfl ?_
  refine q_iload_n C 1 dX8_at_1 rfl ?_
  obtain ⟨x2, hM, hf⟩ := bd_e hf
  refine q_callVI C (mW cI cJ cZ cN cM a w kn kp sd ks bo bi bk ri fm tt le wa hd sx b1 b2) (kX8_isNode l D cI cJ cZ cN cM a w kn kp sd ks bo bi bk ri fm tt le wa hd sx b1 b2 v1 x2 hM) (cwV 1 C.1.2.2.2.2 gX8_at_X8_isNode rfl rfl rfl hdX8_isNode ⟨Nat.le_of_ble_eq_true rfl, Nat.le_of_ble_eq_true rfl⟩) 0 7 rfl rfl FrX.all rfl rfl (Nat.le_of_ble_eq_true rfl) dX8_at_2 ⟨Nat.zero_le _, Nat.zero_le _⟩ ?_
  refine q_if_ne C 11 dX8_at_5 (by decide) hf (fun hf => ?_) (fun hf => ?_)
  · refine q_aload_n C 0 dX8_at_11 rfl ?_
    obtain ⟨ri_12, fm_12, tt_12, le_12, wa_12, hM, hf⟩ := bd5_e hf
    refine q_callVV C (mW cI cJ cZ cN cM a w kn kp sd ks bo bi bk ri_12 fm_12 tt_12 le_12 wa_12 hd sx b1 b2) (kX8_layWays l D cI cJ cZ cN cM a w kn kp sd ks bo bi bk ri fm tt le wa hd sx b1 b2  ri_12 fm_12 tt_12 le_12 wa_12 hM) (cwV 0 C.1.2.2.2.2 gX8_at_X8_layWays rfl rfl rfl hdX8_layWays ⟨Nat.le_of_ble_eq_true rfl, Nat.le_of_ble_eq_true rfl⟩) 0 7 rfl rfl FrX.all rfl rfl (Nat.le_of_ble_eq_true rfl) dX8_at_12 ⟨Nat.zero_le _, Nat.zero_le _⟩ ?_
    refine q_iload_n C 2 dX8_at_15 rfl ?_
    refine q_sw C 0 40 0 56 dX8_at_16 rfl (by decide) (by decide) rfl (by decide) hf (fun hf => ?_) (fun hn0 hf => ?_)
    · refine q_aload_n C 0 dX8_at_56 rfl ?_
      refine q_get C 0 8 dX8_at_57 rfl rfl (Nat.le_of_ble_eq_true rfl) inX8_at_X8 lkX8_at_2 rfl rfl ?_
      refine q_iload_n C 1 dX8_at_60 rfl ?_
      refine q_iald C 5 0 dX8_at_61 rfl rfl hf (fun x61 hf => ?_)
      have hy0 := Option.some.inj hf
      clear hf
      obtain ⟨hz1, hy1⟩ := Prod.mk.inj hy0
      clear hy0
      obtain ⟨hz2, hy2⟩ := Prod.mk.inj hy1
      clear hy1
      obtain ⟨hz3, hy3⟩ := Prod.mk.inj hy2
      clear hy2
      obtain ⟨hz4, hy4⟩ := Prod.mk.inj hy3
      clear hy3
      obtain ⟨hz5, hy5⟩ := Prod.mk.inj hy4
      clear hy4
      subst hz1
      subst hz2
      subst hz3
      subst hz4
      subst hz5
      subst hy5
      exact hret _ _ dX8_at_62 rfl
    refine q_sw C 1 47 1 63 dX8_at_16 rfl (by decide) (by decide) rfl (by decide) hf (fun hf => ?_) (fun hn1 hf => ?_)
    · refine q_aload_n C 0 dX8_at_63 rfl ?_
      refine q_get C 0 0 dX8_at_64 rfl rfl (Nat.le_of_ble_eq_true rfl) inX8_at_X8 lkX8_at_3 rfl rfl ?_
      refine q_iconst C 3 dX8_at_67 (by decide) ?_
      refine q_iload_n C 1 dX8_at_68 rfl ?_
      refine q_iadd C dX8_at_69 ?_
      refine q_iald C 1 0 dX8_at_70 rfl rfl hf (fun x70 hf => ?_)
      have hy0 := Option.some.inj hf
      clear hf
      obtain ⟨hz1, hy1⟩ := Prod.mk.inj hy0
      clear hy0
      obtain ⟨hz2, hy2⟩ := Prod.mk.inj hy1
      clear hy1
      obtain ⟨hz3, hy3⟩ := Prod.mk.inj hy2
      clear hy2
      obtain ⟨hz4, hy4⟩ := Prod.mk.inj hy3
      clear hy3
      obtain ⟨hz5, hy5⟩ := Prod.mk.inj hy4
      clear hy4
      subst hz1
      subst hz2
      subst hz3
      subst hz4
      subst hz5
      subst hy5
      exact hret _ _ dX8_at_71 rfl
    refine q_sw C 2 56 2 72 dX8_at_16 rfl (by decide) (by decide) rfl (by decide) hf (fun hf => ?_) (fun hn2 hf => ?_)
    · refine q_aload_n C 0 dX8_at_72 rfl ?_
      refine q_iload_n C 1 dX8_at_73 rfl ?_
      obtain ⟨x74, hM, hf⟩ := bd_e hf
      refine q_callVI C (mW cI cJ cZ cN cM a w kn kp sd ks bo bi bk ri_12 fm_12 tt_12 le_12 wa_12 hd sx b1 b2) (kX8_upper l D cI cJ cZ cN cM a w kn kp sd ks bo bi bk ri_12 fm_12 tt_12 le_12 wa_12 hd sx b1 b2 v1 x74 hM) (cwV 1 C.1.2.2.2.2 gX8_at_X8_upper rfl rfl rfl hdX8_upper ⟨Nat.le_of_ble_eq_true rfl, Nat.le_of_ble_eq_true rfl⟩) 0 7 rfl rfl FrX.all rfl rfl (Nat.le_of_ble_eq_true rfl) dX8_at_74 ⟨Nat.zero_le _, Nat.zero_le _⟩ ?_
      have hy0 := Option.some.inj hf
      clear hf
      obtain ⟨hz1, hy1⟩ := Prod.mk.inj hy0
      clear hy0
      obtain ⟨hz2, hy2⟩ := Prod.mk.inj hy1
      clear hy1
      obtain ⟨hz3, hy3⟩ := Prod.mk.inj hy2
      clear hy2
      obtain ⟨hz4, hy4⟩ := Prod.mk.inj hy3
      clear hy3
      obtain ⟨hz5, hy5⟩ := Prod.mk.inj hy4
      clear hy4
      subst hz1
      subst hz2
      subst hz3
      subst hz4
      subst hz5
      subst hy5
      exact hret _ _ dX8_at_77 rfl
    refine q_sw C 3 62 3 78 dX8_at_16 rfl (by decide) (by decide) rfl (by decide) hf (fun hf => ?_) (fun hn3 hf => ?_)
    · refine q_aload_n C 0 dX8_at_78 rfl ?_
      refine q_get C 0 0 dX8_at_79 rfl rfl (Nat.le_of_ble_eq_true rfl) inX8_at_X8 lkX8_at_3 rfl rfl ?_
      refine q_bipush C 21 dX8_at_82 (by decide) ?_
      refine q_iload_n C 1 dX8_at_84 rfl ?_
      refine q_iadd C dX8_at_85 ?_
      refine q_iald C 1 0 dX8_at_86 rfl rfl hf (fun x86 hf => ?_)
      have hy0 := Option.some.inj hf
      clear hf
      obtain ⟨hz1, hy1⟩ := Prod.mk.inj hy0
      clear hy0
      obtain ⟨hz2, hy2⟩ := Prod.mk.inj hy1
      clear hy1
      obtain ⟨hz3, hy3⟩ := Prod.mk.inj hy2
      clear hy2
      obtain ⟨hz4, hy4⟩ := Prod.mk.inj hy3
      clear hy3
      obtain ⟨hz5, hy5⟩ := Prod.mk.inj hy4
      clear hy4
      subst hz1
      subst hz2
      subst hz3
      subst hz4
      subst hz5
      subst hy5
      exact hret _ _ dX8_at_87 rfl
    refine q_sw C 4 72 4 88 dX8_at_16 rfl (by decide) (by decide) rfl (by decide) hf (fun hf => ?_) (fun hn4 hf => ?_)
    · refine q_aload_n C 0 dX8_at_88 rfl ?_
      refine q_get C 0 12 dX8_at_89 rfl rfl (Nat.le_of_ble_eq_true rfl) inX8_at_X8 lkX8_at_4 rfl rfl ?_
      refine q_iload_n C 1 dX8_at_92 rfl ?_
      refine q_iald C 8 0 dX8_at_93 rfl rfl hf (fun x93 hf => ?_)
      have hy0 := Option.some.inj hf
      clear hf
      obtain ⟨hz1, hy1⟩ := Prod.mk.inj hy0
      clear hy0
      obtain ⟨hz2, hy2⟩ := Prod.mk.inj hy1
      clear hy1
      obtain ⟨hz3, hy3⟩ := Prod.mk.inj hy2
      clear hy2
      obtain ⟨hz4, hy4⟩ := Prod.mk.inj hy3
      clear hy3
      obtain ⟨hz5, hy5⟩ := Prod.mk.inj hy4
      clear hy4
      subst hz1
      subst hz2
      subst hz3
      subst hz4
      subst hz5
      subst hy5
      exact hret _ _ dX8_at_94 rfl
    refine q_sw C 5 79 5 95 dX8_at_16 rfl (by decide) (by decide) rfl (by decide) hf (fun hf => ?_) (fun hn5 hf => ?_)
    · refine q_aload_n C 0 dX8_at_95 rfl ?_
      refine q_iload_n C 1 dX8_at_96 rfl ?_
      obtain ⟨x97, ri_97, fm_97, tt_97, le_97, hM, hf⟩ := bd5_e hf
      refine q_callVI C (mW cI cJ cZ cN cM a w kn kp sd ks bo bi bk ri_97 fm_97 tt_97 le_97 wa_12 hd sx b1 b2) (kX8_lettersTo l D cI cJ cZ cN cM a w kn kp sd ks bo bi bk ri_12 fm_12 tt_12 le_12 wa_12 hd sx b1 b2 v1 x97 ri_97 fm_97 tt_97 le_97 hM) (cwV 1 C.1.2.2.2.2 gX8_at_X8_lettersTo rfl rfl rfl hdX8_lettersTo ⟨Nat.le_of_ble_eq_true rfl, Nat.le_of_ble_eq_true rfl⟩) 0 7 rfl rfl FrX.all rfl rfl (Nat.le_of_ble_eq_true rfl) dX8_at_97 ⟨Nat.zero_le _, Nat.zero_le _⟩ ?_
      have hy0 := Option.some.inj hf
      clear hf
      obtain ⟨hz1, hy1⟩ := Prod.mk.inj hy0
      clear hy0
      obtain ⟨hz2, hy2⟩ := Prod.mk.inj hy1
      clear hy1
      obtain ⟨hz3, hy3⟩ := Prod.mk.inj hy2
      clear hy2
      obtain ⟨hz4, hy4⟩ := Prod.mk.inj hy3
      clear hy3
      obtain ⟨hz5, hy5⟩ := Prod.mk.inj hy4
      clear hy4
      subst hz1
      subst hz2
      subst hz3
      subst hz4
      subst hz5
      subst hy5
      exact hret _ _ dX8_at_100 rfl
    have e0 := lv_neT (a := 0) hn0 rfl
    have e1 := lv_neT (a := 1) hn1 rfl
    have e2 := lv_neT (a := 2) hn2 rfl
    have e3 := lv_neT (a := 3) hn3 rfl
    have e4 := lv_neT (a := 4) hn4 rfl
    have e5 := lv_neT (a := 5) hn5 rfl
    refine q_swD C 101 dX8_at_16 (by omega) (by decide) ?_
    refine q_ldc C dX8_at_101 lkX8_at_5 ?_
    have hy0 := Option.some.inj hf
    clear hf
    obtain ⟨hz1, hy1⟩ := Prod.mk.inj hy0
    clear hy0
    obtain ⟨hz2, hy2⟩ := Prod.mk.inj hy1
    clear hy1
    obtain ⟨hz3, hy3⟩ := Prod.mk.inj hy2
    clear hy2
    obtain ⟨hz4, hy4⟩ := Prod.mk.inj hy3
    clear hy3
    obtain ⟨hz5, hy5⟩ := Prod.mk.inj hy4
    clear hy4
    subst hz1
    subst hz2
    subst hz3
    subst hz4
    subst hz5
    subst hy5
    exact hret _ _ dX8_at_103 rfl
  · refine q_ldc C dX8_at_8 lkX8_at_1 ?_
    have hy0 := Option.some.inj hf
    clear hf
    obtain ⟨hz1, hy1⟩ := Prod.mk.inj hy0
    clear hy0
    obtain ⟨hz2, hy2⟩ := Prod.mk.inj hy1
    clear hy1
    obtain ⟨hz3, hy3⟩ := Prod.mk.inj hy2
    clear hy2
    obtain ⟨hz4, hy4⟩ := Prod.mk.inj hy3
    clear hy3
    obtain ⟨hz5, hy5⟩ := Prod.mk.inj hy4
    clear hy4
    subst hz1
    subst hz2
    subst hz3
    subst hz4
    subst hz5
    subst hy5
    exact hret _ _ dX8_at_10 rfl

theorem lkX8_isLost_1 : Cond.fieldLink RX8 9 "TwiceHeardModel" "w" "[I" ∈ wsX8_isLost := List.mem_of_getElem? (i := 1) rfl
theorem lkX8_isLost_2 : Cond.constant RX8 180 (-1000000001) ∈ wsX8_isLost := List.mem_of_getElem? (i := 2) rfl
theorem inX8_isLost_X8 : ∀ w ∈ wsX80, w ∈ wsX8_isLost := fun w h => List.mem_cons_of_mem _ (List.mem_append_right _ h)
abbrev rmX8_isLost : Room := { frames := 3, cells := 0, slots := 0, locals := 65 }
theorem hdX8_isLost : yX8_isLost.cls = RX8 ∧ yX8_isLost.cls ≠ "java/lang/invoke/MethodHandle" ∧ yX8_isLost.cls ≠ "java/lang/invoke/VarHandle" ∧ (parseMethodDescriptor yX8_isLost.desc).map (fun d => d.parameters.length) = some 2 := by decide +kernel
def fX8_isLost (w : (Nat → Int32)) (v1 : Int32) (v2 : Int32) : Option (Int32) :=
  (fX8_isLinked w v1 v2).bind fun x3 =>
  if x3 = 0 then (
  some (-1000000001 : Int32)) else (
  (rdI 570 w ((12 : Int32) + v1)).bind fun x17 =>
  (fX8_has x17 v2).bind fun x19 =>
  if x19 = 0 then (
  some (0 : Int32)) else (
  some (1 : Int32)))
set_option maxRecDepth 100000 in
set_option maxHeartbeats 4000000 in
theorem kX8_isLost (l : Launch) (D : va_G) (cI cJ cZ cN cM : ClassId) (a : Nat → Nat) (w : (Nat → Int32)) (kn : Int32) (kp : Int32) (sd : Int32) (ks : (Nat → Int32)) (bo : (Nat → Int32)) (bi : (Nat → Int32)) (bk : Int32) (ri : (Nat → Int32)) (fm : (Nat → Int32)) (tt : (Nat → Int32)) (le : Int32) (wa : (Nat → Int32)) (hd : (Nat → Int64)) (sx : (Nat → Int32)) (b1 : (Nat → Int64)) (b2 : (Nat → Int64)) (v1 : Int32) (v2 : Int32) (r : Int32) (hf : fX8_isLost w v1 v2 = some r) : MetI l yX8_isLost wsX8_isLost rmX8_isLost D (TYL cI cJ cZ cN cM) [.ref (a 0), .int v1, .int v2] (mW cI cJ cZ cN cM a w kn kp sd ks bo bi bk ri fm tt le wa hd sx b1 b2) (mW cI cJ cZ cN cM a w kn kp sd ks bo bi bk ri fm tt le wa hd sx b1 b2) r := by
  refine MetI.mk (cc := cX8_isLost) (maxL := 3) (own := RX8) (ty := .int) [(0, .ref (a 0)), (1, .int v1), (2, .int v2)] (by decide +kernel) rfl rfl (Nat.le_of_ble_eq_true rfl) rfl ?_
  intro p e s m args below meth c A Q C hret
  unfold fX8_isLost at hf
  refine q_aload_n C 0 dX8_isLost_0 rfl ?_
  refine q_iload_n C 1 dX8_isLost_1 rfl ?_
  refine q_iload_n C 2 dX8_isLost_2 rfl ?_
  obtain ⟨x3, hM, hf⟩ := bd_e hf
  refine q_callVI C (mW cI cJ cZ cN cM a w kn kp sd ks bo bi bk ri fm tt le wa hd sx b1 b2) (kX8_isLinked l D cI cJ cZ cN cM a w kn kp sd ks bo bi bk ri fm tt le wa hd sx b1 b2 v1 v2 x3 hM) (cwV 2 C.1.2.2.2.2 gX8_isLost_X8_isLinked rfl rfl rfl hdX8_isLinked ⟨Nat.le_of_ble_eq_true rfl, Nat.le_of_ble_eq_true rfl⟩) 0 7 rfl rfl FrX.all rfl rfl (Nat.le_of_ble_eq_true rfl) dX8_isLost_3 ⟨Nat.zero_le _, Nat.zero_le _⟩ ?_
  refine q_if_eq C 33 dX8_isLost_6 (by decide) hf (fun hf => ?_) (fun hf => ?_)
  · refine q_ldc C dX8_isLost_33 lkX8_isLost_2 ?_
    have hz1 := Option.some.inj hf
    clear hf
    subst hz1
    exact hret _ _ dX8_isLost_35 rfl
  · refine q_aload_n C 0 dX8_isLost_9 rfl ?_
    refine q_get C 0 0 dX8_isLost_10 rfl rfl (Nat.le_of_ble_eq_true rfl) inX8_isLost_X8 lkX8_isLost_1 rfl rfl ?_
    refine q_bipush C 12 dX8_isLost_13 (by decide) ?_
    refine q_iload_n C 1 dX8_isLost_15 rfl ?_
    refine q_iadd C dX8_isLost_16 ?_
    refine q_iald C 1 0 dX8_isLost_17 rfl rfl hf (fun x17 hf => ?_)
    refine q_iload_n C 2 dX8_isLost_18 rfl ?_
    obtain ⟨x19, hM, hf⟩ := bd_e hf
    refine q_callSI C (mW cI cJ cZ cN cM a w kn kp sd ks bo bi bk ri fm tt le wa hd sx b1 b2) (kX8_has l D cI cJ cZ cN cM   x17 v2 x19 hM) (va_cwS 2 C.1.2.2.2.2 gX8_isLost_X8_has rfl rfl rfl hdX8_has ⟨Nat.le_of_ble_eq_true rfl, Nat.le_of_ble_eq_true rfl⟩) FrX.none rfl rfl (Nat.le_of_ble_eq_true rfl) dX8_isLost_19 ⟨Nat.zero_le _, Nat.zero_le _⟩ ?_
    refine q_if_eq C 29 dX8_isLost_22 (by decide) hf (fun hf => ?_) (fun hf => ?_)
    · refine q_iconst C 0 dX8_isLost_29 (by decide) ?_
      refine q_goto C 35 dX8_isLost_30 (by decide) ?_
      have hz1 := Option.some.inj hf
      clear hf
      subst hz1
      exact hret _ _ dX8_isLost_35 rfl
    · refine q_iconst C 1 dX8_isLost_25 (by decide) ?_
      refine q_goto C 35 dX8_isLost_26 (by decide) ?_
      have hz1 := Option.some.inj hf
      clear hf
      subst hz1
      exact hret _ _ dX8_isLost_35 rfl

theorem lkX8_mark_1 : Cond.constant RX8 179 (-1000000002) ∈ wsX8_mark := List.mem_of_getElem? (i := 1) rfl
theorem inX8_mark_X8 : ∀ w ∈ wsX80, w ∈ wsX8_mark := fun w h => List.mem_cons_of_mem _ (List.mem_append_right _ h)
abbrev rmX8_mark : Room := { frames := 2, cells := 0, slots := 0, locals := 46 }
theorem hdX8_mark : yX8_mark.cls = RX8 ∧ yX8_mark.cls ≠ "java/lang/invoke/MethodHandle" ∧ yX8_mark.cls ≠ "java/lang/invoke/VarHandle" ∧ (parseMethodDescriptor yX8_mark.desc).map (fun d => d.parameters.length) = some 2 := by decide +kernel
def fX8_mark (w : (Nat → Int32)) (v1 : Int32) (v2 : Int32) : Option (Int32) :=
  (fX8_in v1 (0 : Int32) (15 : Int32)).bind fun x4 =>
  jn0 (
  some (-1000000002 : Int32)) fun k19 =>
  if x4 = 0 then (
  k19) else (
  (fX8_in v2 (0 : Int32) (1 : Int32)).bind fun x13 =>
  if x13 = 0 then (
  k19) else (
  if v2 = 0 then (
  (fX8_markOf w v1).bind fun x28 =>
  some x28) else (
  (fX8_rankOf w v1).bind fun x36 =>
  some x36)))
set_option maxRecDepth 100000 in
set_option maxHeartbeats 4000000 in
theorem kX8_mark (l : Launch) (D : va_G) (cI cJ cZ cN cM : ClassId) (a : Nat → Nat) (w : (Nat → Int32)) (kn : Int32) (kp : Int32) (sd : Int32) (ks : (Nat → Int32)) (bo : (Nat → Int32)) (bi : (Nat → Int32)) (bk : Int32) (ri : (Nat → Int32)) (fm : (Nat → Int32)) (tt : (Nat → Int32)) (le : Int32) (wa : (Nat → Int32)) (hd : (Nat → Int64)) (sx : (Nat → Int32)) (b1 : (Nat → Int64)) (b2 : (Nat → Int64)) (v1 : Int32) (v2 : Int32) (r : Int32) (hf : fX8_mark w v1 v2 = some r) : MetI l yX8_mark wsX8_mark rmX8_mark D (TYL cI cJ cZ cN cM) [.ref (a 0), .int v1, .int v2] (mW cI cJ cZ cN cM a w kn kp sd ks bo bi bk ri fm tt le wa hd sx b1 b2) (mW cI cJ cZ cN cM a w kn kp sd ks bo bi bk ri fm tt le wa hd sx b1 b2) r := by
  refine MetI.mk (cc := cX8_mark) (maxL := 3) (own := RX8) (ty := .int) [(0, .ref (a 0)), (1, .int v1), (2, .int v2)] (by decide +kernel) rfl rfl (Nat.le_of_ble_eq_true rfl) rfl ?_
  intro p e s m args below meth c A Q C hret
  unfold fX8_mark at hf
  refine q_iload_n C 1 dX8_mark_0 rfl ?_
  refine q_iconst C 0 dX8_mark_1 (by decide) ?_
  refine q_bipush C 15 dX8_mark_2 (by decide) ?_
  obtain ⟨x4, hM, hf⟩ := bd_e hf
  refine q_callSI C (mW cI cJ cZ cN cM a w kn kp sd ks bo bi bk ri fm tt le wa hd sx b1 b2) (kX8_in l D cI cJ cZ cN cM   v1 (0 : Int32) (15 : Int32) x4 hM) (va_cwS 3 C.1.2.2.2.2 gX8_mark_X8_in rfl rfl rfl hdX8_in ⟨Nat.le_of_ble_eq_true rfl, Nat.le_of_ble_eq_true rfl⟩) FrX.none rfl rfl (Nat.le_of_ble_eq_true rfl) dX8_mark_4 ⟨Nat.zero_le _, Nat.zero_le _⟩ ?_
  refine jn0_e (WW p l e rmX8_mark s m args below meth c Q D A 3 0 0 (mW cI cJ cZ cN cM a w kn kp sd ks bo bi bk ri fm tt le wa hd sx b1 b2) [] 19 []) hf ?_ ?_
  · intro hf
    refine q_ldc C dX8_mark_19 lkX8_mark_1 ?_
    have hz1 := Option.some.inj hf
    clear hf
    subst hz1
    exact hret _ _ dX8_mark_21 rfl
  intro k19 J19 hf
  refine q_if_eq C 19 dX8_mark_7 (by decide) hf (fun hf => ?_) (fun hf => ?_)
  · refine q_lv [] [] rfl ?_
    exact J19  hf
  · refine q_iload_n C 2 dX8_mark_10 rfl ?_
    refine q_iconst C 0 dX8_mark_11 (by decide) ?_
    refine q_iconst C 1 dX8_mark_12 (by decide) ?_
    obtain ⟨x13, hM, hf⟩ := bd_e hf
    refine q_callSI C (mW cI cJ cZ cN cM a w kn kp sd ks bo bi bk ri fm tt le wa hd sx b1 b2) (kX8_in l D cI cJ cZ cN cM   v2 (0 : Int32) (1 : Int32) x13 hM) (va_cwS 3 C.1.2.2.2.2 gX8_mark_X8_in rfl rfl rfl hdX8_in ⟨Nat.le_of_ble_eq_true rfl, Nat.le_of_ble_eq_true rfl⟩) FrX.none rfl rfl (Nat.le_of_ble_eq_true rfl) dX8_mark_13 ⟨Nat.zero_le _, Nat.zero_le _⟩ ?_
    refine q_if_ne C 22 dX8_mark_16 (by decide) hf (fun hf => ?_) (fun hf => ?_)
    · refine q_iload_n C 2 dX8_mark_22 rfl ?_
      refine q_if_ne C 34 dX8_mark_23 (by decide) hf (fun hf => ?_) (fun hf => ?_)
      · refine q_aload_n C 0 dX8_mark_34 rfl ?_
        refine q_iload_n C 1 dX8_mark_35 rfl ?_
        obtain ⟨x36, hM, hf⟩ := bd_e hf
        refine q_callVI C (mW cI cJ cZ cN cM a w kn kp sd ks bo bi bk ri fm tt le wa hd sx b1 b2) (kX8_rankOf l D cI cJ cZ cN cM a w kn kp sd ks bo bi bk ri fm tt le wa hd sx b1 b2 v1 x36 hM) (cwV 1 C.1.2.2.2.2 gX8_mark_X8_rankOf rfl rfl rfl hdX8_rankOf ⟨Nat.le_of_ble_eq_true rfl, Nat.le_of_ble_eq_true rfl⟩) 0 7 rfl rfl FrX.all rfl rfl (Nat.le_of_ble_eq_true rfl) dX8_mark_36 ⟨Nat.zero_le _, Nat.zero_le _⟩ ?_
        have hz1 := Option.some.inj hf
        clear hf
        subst hz1
        exact hret _ _ dX8_mark_39 rfl
      · refine q_aload_n C 0 dX8_mark_26 rfl ?_
        refine q_iload_n C 1 dX8_mark_27 rfl ?_
        obtain ⟨x28, hM, hf⟩ := bd_e hf
        refine q_callVI C (mW cI cJ cZ cN cM a w kn kp sd ks bo bi bk ri fm tt le wa hd sx b1 b2) (kX8_markOf l D cI cJ cZ cN cM a w kn kp sd ks bo bi bk ri fm tt le wa hd sx b1 b2 v1 x28 hM) (cwV 1 C.1.2.2.2.2 gX8_mark_X8_markOf rfl rfl rfl hdX8_markOf ⟨Nat.le_of_ble_eq_true rfl, Nat.le_of_ble_eq_true rfl⟩) 0 7 rfl rfl FrX.all rfl rfl (Nat.le_of_ble_eq_true rfl) dX8_mark_28 ⟨Nat.zero_le _, Nat.zero_le _⟩ ?_
        refine q_goto C 39 dX8_mark_31 (by decide) ?_
        have hz1 := Option.some.inj hf
        clear hf
        subst hz1
        exact hret _ _ dX8_mark_39 rfl
    · refine q_lv [] [] rfl ?_
      exact J19  hf

theorem lkX8_holds_1 : Cond.constantLong RX8 187 (-1000000001) ∈ wsX8_holds := List.mem_of_getElem? (i := 1) rfl
theorem lkX8_holds_2 : Cond.constantLong RX8 189 (-1000000002) ∈ wsX8_holds := List.mem_of_getElem? (i := 2) rfl
theorem lkX8_holds_3 : Cond.fieldLink RX8 22 "TwiceHeardModel" "ring" "[I" ∈ wsX8_holds := List.mem_of_getElem? (i := 3) rfl
theorem lkX8_holds_4 : Cond.constantLong RX8 191 (-1) ∈ wsX8_holds := List.mem_of_getElem? (i := 4) rfl
theorem lkX8_holds_5 : Cond.fieldLink RX8 34 "TwiceHeardModel" "held" "[J" ∈ wsX8_holds := List.mem_of_getElem? (i := 5) rfl
theorem inX8_holds_X8 : ∀ w ∈ wsX80, w ∈ wsX8_holds := fun w h => List.mem_cons_of_mem _ (List.mem_append_right _ h)
abbrev rmX8_holds : Room := { frames := 5, cells := 0, slots := 0, locals := 124 }
theorem hdX8_holds : yX8_holds.cls = RX8 ∧ yX8_holds.cls ≠ "java/lang/invoke/MethodHandle" ∧ yX8_holds.cls ≠ "java/lang/invoke/VarHandle" ∧ (parseMethodDescriptor yX8_holds.desc).map (fun d => d.parameters.length) = some 2 := by decide +kernel
def fX8_holds (w : (Nat → Int32)) (ri : (Nat → Int32)) (fm : (Nat → Int32)) (tt : (Nat → Int32)) (le : Int32) (hd : (Nat → Int64)) (sx : (Nat → Int32)) (v1 : Int32) (v2 : Int32) : Option (Int64 × (Nat → Int32) × (Nat → Int32) × (Nat → Int32) × Int32 × (Nat → Int64) × (Nat → Int32)) :=
  (fX8_isNode w v1).bind fun x2 =>
  if x2 = 0 then (
  some ((-1000000001 : Int64), ri, fm, tt, le, hd, sx)) else (
  (fX8_in v2 (0 : Int32) (3 : Int32)).bind fun x15 =>
  if x15 = 0 then (
  some ((-1000000002 : Int64), ri, fm, tt, le, hd, sx)) else (
  bd6 (fX8_layHeld w ri fm tt le hd sx v2) fun ri_27 fm_27 tt_27 le_27 hd_27 sx_27 =>
  (rdI 9 ri_27 v1).bind fun x35 =>
  if x35 = (-1 : Int32) then (
  some ((-1 : Int64), ri_27, fm_27, tt_27, le_27, hd_27, sx_27)) else (
  (rdL 9 hd_27 v1).bind fun x51 =>
  some (x51, ri_27, fm_27, tt_27, le_27, hd_27, sx_27))))
set_option maxRecDepth 100000 in
set_option maxHeartbeats 4000000 in
theorem kX8_holds (l : Launch) (D : va_G) (cI cJ cZ cN cM : ClassId) (a : Nat → Nat) (w : (Nat → Int32)) (kn : Int32) (kp : Int32) (sd : Int32) (ks : (Nat → Int32)) (bo : (Nat → Int32)) (bi : (Nat → Int32)) (bk : Int32) (ri : (Nat → Int32)) (fm : (Nat → Int32)) (tt : (Nat → Int32)) (le : Int32) (wa : (Nat → Int32)) (hd : (Nat → Int64)) (sx : (Nat → Int32)) (b1 : (Nat → Int64)) (b2 : (Nat → Int64)) (v1 : Int32) (v2 : Int32) (r : Int64) (ri_o : (Nat → Int32)) (fm_o : (Nat → Int32)) (tt_o : (Nat → Int32)) (le_o : Int32) (hd_o : (Nat → Int64)) (sx_o : (Nat → Int32)) (hf : fX8_holds w ri fm tt le hd sx v1 v2 = some (r, ri_o, fm_o, tt_o, le_o, hd_o, sx_o)) : MetL l yX8_holds wsX8_holds rmX8_holds D (TYL cI cJ cZ cN cM) [.ref (a 0), .int v1, .int v2] (mW cI cJ cZ cN cM a w kn kp sd ks bo bi bk ri fm tt le wa hd sx b1 b2) (mW cI cJ cZ cN cM a w kn kp sd ks bo bi bk ri_o fm_o tt_o le_o wa hd_o sx_o b1 b2) r := by
  refine MetL.mk (cc := cX8_holds) (maxL := 3) (own := RX8) [(0, .ref (a 0)), (1, .int v1), (2, .int v2)] (by decide +kernel) rfl rfl (Nat.le_of_ble_eq_true rfl) rfl ?_
  intro p e s m args below meth c A Q C hret
  unfold fX8_holds at hf
  refine q_aload_n C 0 dX8_holds_0 rfl ?_
  refine q_iload_n C 1 dX8_holds_1 rfl ?_
  obtain ⟨x2, hM, hf⟩ := bd_e hf
  refine q_callVI C (mW cI cJ cZ cN cM a w kn kp sd ks bo bi bk ri fm tt le wa hd sx b1 b2) (kX8_isNode l D cI cJ cZ cN cM a w kn kp sd ks bo bi bk ri fm tt le wa hd sx b1 b2 v1 x2 hM) (cwV 1 C.1.2.2.2.2 gX8_holds_X8_isNode rfl rfl rfl hdX8_isNode ⟨Nat.le_of_ble_eq_true rfl, Nat.le_of_ble_eq_true rfl⟩) 0 7 rfl rfl FrX.all rfl rfl (Nat.le_of_ble_eq_true rfl) dX8_holds_2 ⟨Nat.zero_le _, Nat.zero_le _⟩ ?_
  refine q_if_ne C 12 dX8_holds_5 (by decide) hf (fun hf => ?_) (fun hf => ?_)
  · refine q_iload_n C 2 dX8_holds_12 rfl ?_
    refine q_iconst C 0 dX8_holds_13 (by decide) ?_
    refine q_iconst C 3 dX8_holds_14 (by decide) ?_
    obtain ⟨x15, hM, hf⟩ := bd_e hf
    refine q_callSI C (mW cI cJ cZ cN cM a w kn kp sd ks bo bi bk ri fm tt le wa hd sx b1 b2) (kX8_in l D cI cJ cZ cN cM   v2 (0 : Int32) (3 : Int32) x15 hM) (va_cwS 3 C.1.2.2.2.2 gX8_holds_X8_in rfl rfl rfl hdX8_in ⟨Nat.le_of_ble_eq_true rfl, Nat.le_of_ble_eq_true rfl⟩) FrX.none rfl rfl (Nat.le_of_ble_eq_true rfl) dX8_holds_15 ⟨Nat.zero_le _, Nat.zero_le _⟩ ?_
    refine q_if_ne C 25 dX8_holds_18 (by decide) hf (fun hf => ?_) (fun hf => ?_)
    · refine q_aload_n C 0 dX8_holds_25 rfl ?_
      refine q_iload_n C 2 dX8_holds_26 rfl ?_
      obtain ⟨ri_27, fm_27, tt_27, le_27, hd_27, sx_27, hM, hf⟩ := bd6_e hf
      refine q_callVV C (mW cI cJ cZ cN cM a w kn kp sd ks bo bi bk ri_27 fm_27 tt_27 le_27 wa hd_27 sx_27 b1 b2) (kX8_layHeld l D cI cJ cZ cN cM a w kn kp sd ks bo bi bk ri fm tt le wa hd sx b1 b2 v2 ri_27 fm_27 tt_27 le_27 hd_27 sx_27 hM) (cwV 1 C.1.2.2.2.2 gX8_holds_X8_layHeld rfl rfl rfl hdX8_layHeld ⟨Nat.le_of_ble_eq_true rfl, Nat.le_of_ble_eq_true rfl⟩) 0 7 rfl rfl FrX.all rfl rfl (Nat.le_of_ble_eq_true rfl) dX8_holds_27 ⟨Nat.zero_le _, Nat.zero_le _⟩ ?_
      refine q_aload_n C 0 dX8_holds_30 rfl ?_
      refine q_get C 0 8 dX8_holds_31 rfl rfl (Nat.le_of_ble_eq_true rfl) inX8_holds_X8 lkX8_holds_3 rfl rfl ?_
      refine q_iload_n C 1 dX8_holds_34 rfl ?_
      refine q_iald C 5 0 dX8_holds_35 rfl rfl hf (fun x35 hf => ?_)
      refine q_iconst C (-1) dX8_holds_36 (by decide) ?_
      refine q_icmp_ne C 46 dX8_holds_37 (by decide) hf (fun hf => ?_) (fun hf => ?_)
      · refine q_aload_n C 0 dX8_holds_46 rfl ?_
        refine q_get C 0 13 dX8_holds_47 rfl rfl (Nat.le_of_ble_eq_true rfl) inX8_holds_X8 lkX8_holds_5 rfl rfl ?_
        refine q_iload_n C 1 dX8_holds_50 rfl ?_
        refine q_lald C 9 1 dX8_holds_51 rfl rfl hf (fun x51 hf => ?_)
        have hy0 := Option.some.inj hf
        clear hf
        obtain ⟨hz1, hy1⟩ := Prod.mk.inj hy0
        clear hy0
        obtain ⟨hz2, hy2⟩ := Prod.mk.inj hy1
        clear hy1
        obtain ⟨hz3, hy3⟩ := Prod.mk.inj hy2
        clear hy2
        obtain ⟨hz4, hy4⟩ := Prod.mk.inj hy3
        clear hy3
        obtain ⟨hz5, hy5⟩ := Prod.mk.inj hy4
        clear hy4
        obtain ⟨hz6, hy6⟩ := Prod.mk.inj hy5
        clear hy5
        subst hz1
        subst hz2
        subst hz3
        subst hz4
        subst hz5
        subst hz6
        subst hy6
        exact hret _ _ dX8_holds_52
      · refine q_ldc2 C dX8_holds_40 lkX8_holds_4 ?_
        refine q_goto C 52 dX8_holds_43 (by decide) ?_
        have hy0 := Option.some.inj hf
        clear hf
        obtain ⟨hz1, hy1⟩ := Prod.mk.inj hy0
        clear hy0
        obtain ⟨hz2, hy2⟩ := Prod.mk.inj hy1
        clear hy1
        obtain ⟨hz3, hy3⟩ := Prod.mk.inj hy2
        clear hy2
        obtain ⟨hz4, hy4⟩ := Prod.mk.inj hy3
        clear hy3
        obtain ⟨hz5, hy5⟩ := Prod.mk.inj hy4
        clear hy4
        obtain ⟨hz6, hy6⟩ := Prod.mk.inj hy5
        clear hy5
        subst hz1
        subst hz2
        subst hz3
        subst hz4
        subst hz5
        subst hz6
        subst hy6
        exact hret _ _ dX8_holds_52
    · refine q_ldc2 C dX8_holds_21 lkX8_holds_2 ?_
      have hy0 := Option.some.inj hf
      clear hf
      obtain ⟨hz1, hy1⟩ := Prod.mk.inj hy0
      clear hy0
      obtain ⟨hz2, hy2⟩ := Prod.mk.inj hy1
      clear hy1
      obtain ⟨hz3, hy3⟩ := Prod.mk.inj hy2
      clear hy2
      obtain ⟨hz4, hy4⟩ := Prod.mk.inj hy3
      clear hy3
      obtain ⟨hz5, hy5⟩ := Prod.mk.inj hy4
      clear hy4
      obtain ⟨hz6, hy6⟩ := Prod.mk.inj hy5
      clear hy5
      subst hz1
      subst hz2
      subst hz3
      subst hz4
      subst hz5
      subst hz6
      subst hy6
      exact hret _ _ dX8_holds_24
  · refine q_ldc2 C dX8_holds_8 lkX8_holds_1 ?_
    have hy0 := Option.some.inj hf
    clear hf
    obtain ⟨hz1, hy1⟩ := Prod.mk.inj hy0
    clear hy0
    obtain ⟨hz2, hy2⟩ := Prod.mk.inj hy1
    clear hy1
    obtain ⟨hz3, hy3⟩ := Prod.mk.inj hy2
    clear hy2
    obtain ⟨hz4, hy4⟩ := Prod.mk.inj hy3
    clear hy3
    obtain ⟨hz5, hy5⟩ := Prod.mk.inj hy4
    clear hy4
    obtain ⟨hz6, hy6⟩ := Prod.mk.inj hy5
    clear hy5
    subst hz1
    subst hz2
    subst hz3
    subst hz4
    subst hz5
    subst hz6
    subst hy6
    exact hret _ _ dX8_holds_11

theorem lkX8_guess_1 : Cond.constant RX8 180 (-1000000001) ∈ wsX8_guess := List.mem_of_getElem? (i := 1) rfl
theorem lkX8_guess_2 : Cond.constant RX8 179 (-1000000002) ∈ wsX8_guess := List.mem_of_getElem? (i := 2) rfl
theorem lkX8_guess_3 : Cond.fieldLink RX8 22 "TwiceHeardModel" "ring" "[I" ∈ wsX8_guess := List.mem_of_getElem? (i := 3) rfl
theorem inX8_guess_X8 : ∀ w ∈ wsX80, w ∈ wsX8_guess := fun w h => List.mem_cons_of_mem _ (List.mem_append_right _ h)
abbrev rmX8_guess : Room := { frames := 6, cells := 0, slots := 0, locals := 146 }
theorem hdX8_guess : yX8_guess.cls = RX8 ∧ yX8_guess.cls ≠ "java/lang/invoke/MethodHandle" ∧ yX8_guess.cls ≠ "java/lang/invoke/VarHandle" ∧ (parseMethodDescriptor yX8_guess.desc).map (fun d => d.parameters.length) = some 2 := by decide +kernel
def fX8_guess (w : (Nat → Int32)) (ri : (Nat → Int32)) (fm : (Nat → Int32)) (tt : (Nat → Int32)) (le : Int32) (hd : (Nat → Int64)) (sx : (Nat → Int32)) (v1 : Int32) (v2 : Int32) : Option (Int32 × (Nat → Int32) × (Nat → Int32) × (Nat → Int32) × Int32 × (Nat → Int64) × (Nat → Int32)) :=
  (fX8_isNode w v1).bind fun x2 =>
  if x2 = 0 then (
  some ((-1000000001 : Int32), ri, fm, tt, le, hd, sx)) else (
  (fX8_in v2 (1 : Int32) (2 : Int32)).bind fun x14 =>
  if x14 = 0 then (
  some ((-1000000002 : Int32), ri, fm, tt, le, hd, sx)) else (
  (fX8_layRings w ri).bind fun ri_24 =>
  (rdI 9 ri_24 v1).bind fun x32 =>
  if x32 = (-1 : Int32) then (
  some ((-1 : Int32), ri_24, fm, tt, le, hd, sx)) else (
  if v2 = (1 : Int32) then (
  bd7 (fX8_byBits w ri_24 fm tt le hd sx v1) fun x46 ri_46 fm_46 tt_46 le_46 hd_46 sx_46 =>
  some (x46, ri_46, fm_46, tt_46, le_46, hd_46, sx_46)) else (
  bd7 (fX8_byLeast w ri_24 fm tt le hd sx v1) fun x54 ri_54 fm_54 tt_54 le_54 hd_54 sx_54 =>
  some (x54, ri_54, fm_54, tt_54, le_54, hd_54, sx_54)))))
set_option maxRecDepth 100000 in
set_option maxHeartbeats 4000000 in
theorem kX8_guess (l : Launch) (D : va_G) (cI cJ cZ cN cM : ClassId) (a : Nat → Nat) (w : (Nat → Int32)) (kn : Int32) (kp : Int32) (sd : Int32) (ks : (Nat → Int32)) (bo : (Nat → Int32)) (bi : (Nat → Int32)) (bk : Int32) (ri : (Nat → Int32)) (fm : (Nat → Int32)) (tt : (Nat → Int32)) (le : Int32) (wa : (Nat → Int32)) (hd : (Nat → Int64)) (sx : (Nat → Int32)) (b1 : (Nat → Int64)) (b2 : (Nat → Int64)) (v1 : Int32) (v2 : Int32) (r : Int32) (ri_o : (Nat → Int32)) (fm_o : (Nat → Int32)) (tt_o : (Nat → Int32)) (le_o : Int32) (hd_o : (Nat → Int64)) (sx_o : (Nat → Int32)) (hf : fX8_guess w ri fm tt le hd sx v1 v2 = some (r, ri_o, fm_o, tt_o, le_o, hd_o, sx_o)) : MetI l yX8_guess wsX8_guess rmX8_guess D (TYL cI cJ cZ cN cM) [.ref (a 0), .int v1, .int v2] (mW cI cJ cZ cN cM a w kn kp sd ks bo bi bk ri fm tt le wa hd sx b1 b2) (mW cI cJ cZ cN cM a w kn kp sd ks bo bi bk ri_o fm_o tt_o le_o wa hd_o sx_o b1 b2) r := by
  refine MetI.mk (cc := cX8_guess) (maxL := 3) (own := RX8) (ty := .int) [(0, .ref (a 0)), (1, .int v1), (2, .int v2)] (by decide +kernel) rfl rfl (Nat.le_of_ble_eq_true rfl) rfl ?_
  intro p e s m args below meth c A Q C hret
  unfold fX8_guess at hf
  refine q_aload_n C 0 dX8_guess_0 rfl ?_
  refine q_iload_n C 1 dX8_guess_1 rfl ?_
  obtain ⟨x2, hM, hf⟩ := bd_e hf
  refine q_callVI C (mW cI cJ cZ cN cM a w kn kp sd ks bo bi bk ri fm tt le wa hd sx b1 b2) (kX8_isNode l D cI cJ cZ cN cM a w kn kp sd ks bo bi bk ri fm tt le wa hd sx b1 b2 v1 x2 hM) (cwV 1 C.1.2.2.2.2 gX8_guess_X8_isNode rfl rfl rfl hdX8_isNode ⟨Nat.le_of_ble_eq_true rfl, Nat.le_of_ble_eq_true rfl⟩) 0 7 rfl rfl FrX.all rfl rfl (Nat.le_of_ble_eq_true rfl) dX8_guess_2 ⟨Nat.zero_le _, Nat.zero_le _⟩ ?_
  refine q_if_ne C 11 dX8_guess_5 (by decide) hf (fun hf => ?_) (fun hf => ?_)
  · refine q_iload_n C 2 dX8_guess_11 rfl ?_
    refine q_iconst C 1 dX8_guess_12 (by decide) ?_
    refine q_iconst C 2 dX8_guess_13 (by decide) ?_
    obtain ⟨x14, hM, hf⟩ := bd_e hf
    refine q_callSI C (mW cI cJ cZ cN cM a w kn kp sd ks bo bi bk ri fm tt le wa hd sx b1 b2) (kX8_in l D cI cJ cZ cN cM   v2 (1 : Int32) (2 : Int32) x14 hM) (va_cwS 3 C.1.2.2.2.2 gX8_guess_X8_in rfl rfl rfl hdX8_in ⟨Nat.le_of_ble_eq_true rfl, Nat.le_of_ble_eq_true rfl⟩) FrX.none rfl rfl (Nat.le_of_ble_eq_true rfl) dX8_guess_14 ⟨Nat.zero_le _, Nat.zero_le _⟩ ?_
    refine q_if_ne C 23 dX8_guess_17 (by decide) hf (fun hf => ?_) (fun hf => ?_)
    · refine q_aload_n C 0 dX8_guess_23 rfl ?_
      obtain ⟨ri_24, hM, hf⟩ := bd_e hf
      refine q_callVV C (mW cI cJ cZ cN cM a w kn kp sd ks bo bi bk ri_24 fm tt le wa hd sx b1 b2) (kX8_layRings l D cI cJ cZ cN cM a w kn kp sd ks bo bi bk ri fm tt le wa hd sx b1 b2  ri_24 hM) (cwV 0 C.1.2.2.2.2 gX8_guess_X8_layRings rfl rfl rfl hdX8_layRings ⟨Nat.le_of_ble_eq_true rfl, Nat.le_of_ble_eq_true rfl⟩) 0 7 rfl rfl FrX.all rfl rfl (Nat.le_of_ble_eq_true rfl) dX8_guess_24 ⟨Nat.zero_le _, Nat.zero_le _⟩ ?_
      refine q_aload_n C 0 dX8_guess_27 rfl ?_
      refine q_get C 0 8 dX8_guess_28 rfl rfl (Nat.le_of_ble_eq_true rfl) inX8_guess_X8 lkX8_guess_3 rfl rfl ?_
      refine q_iload_n C 1 dX8_guess_31 rfl ?_
      refine q_iald C 5 0 dX8_guess_32 rfl rfl hf (fun x32 hf => ?_)
      refine q_iconst C (-1) dX8_guess_33 (by decide) ?_
      refine q_icmp_ne C 39 dX8_guess_34 (by decide) hf (fun hf => ?_) (fun hf => ?_)
      · refine q_iload_n C 2 dX8_guess_39 rfl ?_
        refine q_iconst C 1 dX8_guess_40 (by decide) ?_
        refine q_icmp_ne C 52 dX8_guess_41 (by decide) hf (fun hf => ?_) (fun hf => ?_)
        · refine q_aload_n C 0 dX8_guess_52 rfl ?_
          refine q_iload_n C 1 dX8_guess_53 rfl ?_
          obtain ⟨x54, ri_54, fm_54, tt_54, le_54, hd_54, sx_54, hM, hf⟩ := bd7_e hf
          refine q_callVI C (mW cI cJ cZ cN cM a w kn kp sd ks bo bi bk ri_54 fm_54 tt_54 le_54 wa hd_54 sx_54 b1 b2) (kX8_byLeast l D cI cJ cZ cN cM a w kn kp sd ks bo bi bk ri_24 fm tt le wa hd sx b1 b2 v1 x54 ri_54 fm_54 tt_54 le_54 hd_54 sx_54 hM) (cwV 1 C.1.2.2.2.2 gX8_guess_X8_byLeast rfl rfl rfl hdX8_byLeast ⟨Nat.le_of_ble_eq_true rfl, Nat.le_of_ble_eq_true rfl⟩) 0 7 rfl rfl FrX.all rfl rfl (Nat.le_of_ble_eq_true rfl) dX8_guess_54 ⟨Nat.zero_le _, Nat.zero_le _⟩ ?_
          have hy0 := Option.some.inj hf
          clear hf
          obtain ⟨hz1, hy1⟩ := Prod.mk.inj hy0
          clear hy0
          obtain ⟨hz2, hy2⟩ := Prod.mk.inj hy1
          clear hy1
          obtain ⟨hz3, hy3⟩ := Prod.mk.inj hy2
          clear hy2
          obtain ⟨hz4, hy4⟩ := Prod.mk.inj hy3
          clear hy3
          obtain ⟨hz5, hy5⟩ := Prod.mk.inj hy4
          clear hy4
          obtain ⟨hz6, hy6⟩ := Prod.mk.inj hy5
          clear hy5
          subst hz1
          subst hz2
          subst hz3
          subst hz4
          subst hz5
          subst hz6
          subst hy6
          exact hret _ _ dX8_guess_57 rfl
        · refine q_aload_n C 0 dX8_guess_44 rfl ?_
          refine q_iload_n C 1 dX8_guess_45 rfl ?_
          obtain ⟨x46, ri_46, fm_46, tt_46, le_46, hd_46, sx_46, hM, hf⟩ := bd7_e hf
          refine q_callVI C (mW cI cJ cZ cN cM a w kn kp sd ks bo bi bk ri_46 fm_46 tt_46 le_46 wa hd_46 sx_46 b1 b2) (kX8_byBits l D cI cJ cZ cN cM a w kn kp sd ks bo bi bk ri_24 fm tt le wa hd sx b1 b2 v1 x46 ri_46 fm_46 tt_46 le_46 hd_46 sx_46 hM) (cwV 1 C.1.2.2.2.2 gX8_guess_X8_byBits rfl rfl rfl hdX8_byBits ⟨Nat.le_of_ble_eq_true rfl, Nat.le_of_ble_eq_true rfl⟩) 0 7 rfl rfl FrX.all rfl rfl (Nat.le_of_ble_eq_true rfl) dX8_guess_46 ⟨Nat.zero_le _, Nat.zero_le _⟩ ?_
          refine q_goto C 57 dX8_guess_49 (by decide) ?_
          have hy0 := Option.some.inj hf
          clear hf
          obtain ⟨hz1, hy1⟩ := Prod.mk.inj hy0
          clear hy0
          obtain ⟨hz2, hy2⟩ := Prod.mk.inj hy1
          clear hy1
          obtain ⟨hz3, hy3⟩ := Prod.mk.inj hy2
          clear hy2
          obtain ⟨hz4, hy4⟩ := Prod.mk.inj hy3
          clear hy3
          obtain ⟨hz5, hy5⟩ := Prod.mk.inj hy4
          clear hy4
          obtain ⟨hz6, hy6⟩ := Prod.mk.inj hy5
          clear hy5
          subst hz1
          subst hz2
          subst hz3
          subst hz4
          subst hz5
          subst hz6
          subst hy6
          exact hret _ _ dX8_guess_57 rfl
      · refine q_iconst C (-1) dX8_guess_37 (by decide) ?_
        have hy0 := Option.some.inj hf
        clear hf
        obtain ⟨hz1, hy1⟩ := Prod.mk.inj hy0
        clear hy0
        obtain ⟨hz2, hy2⟩ := Prod.mk.inj hy1
        clear hy1
        obtain ⟨hz3, hy3⟩ := Prod.mk.inj hy2
        clear hy2
        obtain ⟨hz4, hy4⟩ := Prod.mk.inj hy3
        clear hy3
        obtain ⟨hz5, hy5⟩ := Prod.mk.inj hy4
        clear hy4
        obtain ⟨hz6, hy6⟩ := Prod.mk.inj hy5
        clear hy5
        subst hz1
        subst hz2
        subst hz3
        subst hz4
        subst hz5
        subst hz6
        subst hy6
        exact hret _ _ dX8_guess_38 rfl
    · refine q_ldc C dX8_guess_20 lkX8_guess_2 ?_
      have hy0 := Option.some.inj hf
      clear hf
      obtain ⟨hz1, hy1⟩ := Prod.mk.inj hy0
      clear hy0
      obtain ⟨hz2, hy2⟩ := Prod.mk.inj hy1
      clear hy1
      obtain ⟨hz3, hy3⟩ := Prod.mk.inj hy2
      clear hy2
      obtain ⟨hz4, hy4⟩ := Prod.mk.inj hy3
      clear hy3
      obtain ⟨hz5, hy5⟩ := Prod.mk.inj hy4
      clear hy4
      obtain ⟨hz6, hy6⟩ := Prod.mk.inj hy5
      clear hy5
      subst hz1
      subst hz2
      subst hz3
      subst hz4
      subst hz5
      subst hz6
      subst hy6
      exact hret _ _ dX8_guess_22 rfl
  · refine q_ldc C dX8_guess_8 lkX8_guess_1 ?_
    have hy0 := Option.some.inj hf
    clear hf
    obtain ⟨hz1, hy1⟩ := Prod.mk.inj hy0
    clear hy0
    obtain ⟨hz2, hy2⟩ := Prod.mk.inj hy1
    clear hy1
    obtain ⟨hz3, hy3⟩ := Prod.mk.inj hy2
    clear hy2
    obtain ⟨hz4, hy4⟩ := Prod.mk.inj hy3
    clear hy3
    obtain ⟨hz5, hy5⟩ := Prod.mk.inj hy4
    clear hy4
    obtain ⟨hz6, hy6⟩ := Prod.mk.inj hy5
    clear hy5
    subst hz1
    subst hz2
    subst hz3
    subst hz4
    subst hz5
    subst hz6
    subst hy6
    exact hret _ _ dX8_guess_10 rfl

theorem lkX8_off_1 : Cond.constant RX8 179 (-1000000002) ∈ wsX8_off := List.mem_of_getElem? (i := 1) rfl
theorem lkX8_off_2 : Cond.constant RX8 196 (100000) ∈ wsX8_off := List.mem_of_getElem? (i := 2) rfl
theorem inX8_off_X8 : ∀ w ∈ wsX80, w ∈ wsX8_off := fun w h => List.mem_cons_of_mem _ (List.mem_append_right _ h)
abbrev rmX8_off : Room := { frames := 6, cells := 0, slots := 0, locals := 146 }
theorem hdX8_off : yX8_off.cls = RX8 ∧ yX8_off.cls ≠ "java/lang/invoke/MethodHandle" ∧ yX8_off.cls ≠ "java/lang/invoke/VarHandle" ∧ (parseMethodDescriptor yX8_off.desc).map (fun d => d.parameters.length) = some 1 := by decide +kernel
def fX8_off (w : (Nat → Int32)) (ri : (Nat → Int32)) (fm : (Nat → Int32)) (tt : (Nat → Int32)) (le : Int32) (hd : (Nat → Int64)) (sx : (Nat → Int32)) (v1 : Int32) : Option (Int32 × (Nat → Int32) × (Nat → Int32) × (Nat → Int32) × Int32 × (Nat → Int64) × (Nat → Int32)) :=
  (fX8_in v1 (1 : Int32) (2 : Int32)).bind fun x3 =>
  if x3 = 0 then (
  some ((-1000000002 : Int32), ri, fm, tt, le, hd, sx)) else (
  jn7 (fun (t0_30 : Int32) (ri_30 : (Nat → Int32)) (fm_30 : (Nat → Int32)) (tt_30 : (Nat → Int32)) (le_30 : Int32) (hd_30 : (Nat → Int64)) (sx_30 : (Nat → Int32)) => 
  bd2 (fX8_truth w ri_30) fun x33 ri_33 =>
  some (((t0_30 - x33) + (100000 : Int32)), ri_33, fm_30, tt_30, le_30, hd_30, sx_30)) fun k30 =>
  if v1 = (1 : Int32) then (
  bd7 (fX8_byBits w ri fm tt le hd sx (0 : Int32)) fun x19 ri_19 fm_19 tt_19 le_19 hd_19 sx_19 =>
  k30 x19 ri_19 fm_19 tt_19 le_19 hd_19 sx_19) else (
  bd7 (fX8_byLeast w ri fm tt le hd sx (0 : Int32)) fun x27 ri_27 fm_27 tt_27 le_27 hd_27 sx_27 =>
  k30 x27 ri_27 fm_27 tt_27 le_27 hd_27 sx_27))
set_option maxRecDepth 100000 in
set_option maxHeartbeats 4000000 in
theorem kX8_off (l : Launch) (D : va_G) (cI cJ cZ cN cM : ClassId) (a : Nat → Nat) (w : (Nat → Int32)) (kn : Int32) (kp : Int32) (sd : Int32) (ks : (Nat → Int32)) (bo : (Nat → Int32)) (bi : (Nat → Int32)) (bk : Int32) (ri : (Nat → Int32)) (fm : (Nat → Int32)) (tt : (Nat → Int32)) (le : Int32) (wa : (Nat → Int32)) (hd : (Nat → Int64)) (sx : (Nat → Int32)) (b1 : (Nat → Int64)) (b2 : (Nat → Int64)) (v1 : Int32) (r : Int32) (ri_o : (Nat → Int32)) (fm_o : (Nat → Int32)) (tt_o : (Nat → Int32)) (le_o : Int32) (hd_o : (Nat → Int64)) (sx_o : (Nat → Int32)) (hf : fX8_off w ri fm tt le hd sx v1 = some (r, ri_o, fm_o, tt_o, le_o, hd_o, sx_o)) : MetI l yX8_off wsX8_off rmX8_off D (TYL cI cJ cZ cN cM) [.ref (a 0), .int v1] (mW cI cJ cZ cN cM a w kn kp sd ks bo bi bk ri fm tt le wa hd sx b1 b2) (mW cI cJ cZ cN cM a w kn kp sd ks bo bi bk ri_o fm_o tt_o le_o wa hd_o sx_o b1 b2) r := by
  refine MetI.mk (cc := cX8_off) (maxL := 3) (own := RX8) (ty := .int) [(0, .ref (a 0)), (1, .int v1)] (by decide +kernel) rfl rfl (Nat.le_of_ble_eq_true rfl) rfl ?_
  intro p e s m args below meth c A Q C hret
  unfold fX8_off at hf
  refine q_iload_n C 1 dX8_off_0 rfl ?_
  refine q_iconst C 1 dX8_off_1 (by decide) ?_
  refine q_iconst C 2 dX8_off_2 (by decide) ?_
  obtain ⟨x3, hM, hf⟩ := bd_e hf
  refine q_callSI C (mW cI cJ cZ cN cM a w kn kp sd ks bo bi bk ri fm tt le wa hd sx b1 b2) (kX8_in l D cI cJ cZ cN cM   v1 (1 : Int32) (2 : Int32) x3 hM) (va_cwS 3 C.1.2.2.2.2 gX8_off_X8_in rfl rfl rfl hdX8_in ⟨Nat.le_of_ble_eq_true rfl, Nat.le_of_ble_eq_true rfl⟩) FrX.none rfl rfl (Nat.le_of_ble_eq_true rfl) dX8_off_3 ⟨Nat.zero_le _, Nat.zero_le _⟩ ?_
  refine q_if_ne C 12 dX8_off_6 (by decide) hf (fun hf => ?_) (fun hf => ?_)
  · refine q_iload_n C 1 dX8_off_12 rfl ?_
    refine q_iconst C 1 dX8_off_13 (by decide) ?_
    refine jn7_e (fun (t0_30 : Int32) (ri_30 : (Nat → Int32)) (fm_30 : (Nat → Int32)) (tt_30 : (Nat → Int32)) (le_30 : Int32) (hd_30 : (Nat → Int64)) (sx_30 : (Nat → Int32)) => WW p l e rmX8_off s m args below meth c Q D A 3 0 0 (mW cI cJ cZ cN cM a w kn kp sd ks bo bi bk ri_30 fm_30 tt_30 le_30 wa hd_30 sx_30 b1 b2) [(0, .ref (a 0))] 30 [.int t0_30]) hf ?_ ?_
    · intro t0_30 ri_30 fm_30 tt_30 le_30 hd_30 sx_30 hf
      refine q_istore_n C [(2, .int t0_30), (0, .ref (a 0))] dX8_off_30 (by decide) rfl ?_
      refine q_iload_n C 0 dX8_off_31 rfl ?_
      refine q_aload_n C 1 dX8_off_32 rfl ?_
      obtain ⟨x33, ri_33, hM, hf⟩ := bd2_e hf
      refine q_callVI C (mW cI cJ cZ cN cM a w kn kp sd ks bo bi bk ri_33 fm_30 tt_30 le_30 wa hd_30 sx_30 b1 b2) (kX8_truth l D cI cJ cZ cN cM a w kn kp sd ks bo bi bk ri_30 fm_30 tt_30 le_30 wa hd_30 sx_30 b1 b2  x33 ri_33 hM) (cwV 0 C.1.2.2.2.2 gX8_off_X8_truth rfl rfl rfl hdX8_truth ⟨Nat.le_of_ble_eq_true rfl, Nat.le_of_ble_eq_true rfl⟩) 0 7 rfl rfl FrX.all rfl rfl (Nat.le_of_ble_eq_true rfl) dX8_off_33 ⟨Nat.zero_le _, Nat.zero_le _⟩ ?_
      refine q_isub C dX8_off_36 ?_
      refine q_ldc C dX8_off_37 lkX8_off_2 ?_
      refine q_iadd C dX8_off_39 ?_
      have hy0 := Option.some.inj hf
      clear hf
      obtain ⟨hz1, hy1⟩ := Prod.mk.inj hy0
      clear hy0
      obtain ⟨hz2, hy2⟩ := Prod.mk.inj hy1
      clear hy1
      obtain ⟨hz3, hy3⟩ := Prod.mk.inj hy2
      clear hy2
      obtain ⟨hz4, hy4⟩ := Prod.mk.inj hy3
      clear hy3
      obtain ⟨hz5, hy5⟩ := Prod.mk.inj hy4
      clear hy4
      obtain ⟨hz6, hy6⟩ := Prod.mk.inj hy5
      clear hy5
      subst hz1
      subst hz2
      subst hz3
      subst hz4
      subst hz5
      subst hz6
      subst hy6
      exact hret _ _ dX8_off_40 rfl
    intro k30 J30 hf
    refine q_icmp_ne C 25 dX8_off_14 (by decide) hf (fun hf => ?_) (fun hf => ?_)
    · refine q_aload_n C 0 dX8_off_25 rfl ?_
      refine q_iconst C 0 dX8_off_26 (by decide) ?_
      obtain ⟨x27, ri_27, fm_27, tt_27, le_27, hd_27, sx_27, hM, hf⟩ := bd7_e hf
      refine q_callVI C (mW cI cJ cZ cN cM a w kn kp sd ks bo bi bk ri_27 fm_27 tt_27 le_27 wa hd_27 sx_27 b1 b2) (kX8_byLeast l D cI cJ cZ cN cM a w kn kp sd ks bo bi bk ri fm tt le wa hd sx b1 b2 (0 : Int32) x27 ri_27 fm_27 tt_27 le_27 hd_27 sx_27 hM) (cwV 1 C.1.2.2.2.2 gX8_off_X8_byLeast rfl rfl rfl hdX8_byLeast ⟨Nat.le_of_ble_eq_true rfl, Nat.le_of_ble_eq_true rfl⟩) 0 7 rfl rfl FrX.all rfl rfl (Nat.le_of_ble_eq_true rfl) dX8_off_27 ⟨Nat.zero_le _, Nat.zero_le _⟩ ?_
      refine q_lv [(0, .ref (a 0))] [0] rfl ?_
      exact J30 _ _ _ _ _ _ _ hf
    · refine q_aload_n C 0 dX8_off_17 rfl ?_
      refine q_iconst C 0 dX8_off_18 (by decide) ?_
      obtain ⟨x19, ri_19, fm_19, tt_19, le_19, hd_19, sx_19, hM, hf⟩ := bd7_e hf
      refine q_callVI C (mW cI cJ cZ cN cM a w kn kp sd ks bo bi bk ri_19 fm_19 tt_19 le_19 wa hd_19 sx_19 b1 b2) (kX8_byBits l D cI cJ cZ cN cM a w kn kp sd ks bo bi bk ri fm tt le wa hd sx b1 b2 (0 : Int32) x19 ri_19 fm_19 tt_19 le_19 hd_19 sx_19 hM) (cwV 1 C.1.2.2.2.2 gX8_off_X8_byBits rfl rfl rfl hdX8_byBits ⟨Nat.le_of_ble_eq_true rfl, Nat.le_of_ble_eq_true rfl⟩) 0 7 rfl rfl FrX.all rfl rfl (Nat.le_of_ble_eq_true rfl) dX8_off_19 ⟨Nat.zero_le _, Nat.zero_le _⟩ ?_
      refine q_goto C 30 dX8_off_22 (by decide) ?_
      refine q_lv [(0, .ref (a 0))] [0] rfl ?_
      exact J30 _ _ _ _ _ _ _ hf
  · refine q_ldc C dX8_off_9 lkX8_off_1 ?_
    have hy0 := Option.some.inj hf
    clear hf
    obtain ⟨hz1, hy1⟩ := Prod.mk.inj hy0
    clear hy0
    obtain ⟨hz2, hy2⟩ := Prod.mk.inj hy1
    clear hy1
    obtain ⟨hz3, hy3⟩ := Prod.mk.inj hy2
    clear hy2
    obtain ⟨hz4, hy4⟩ := Prod.mk.inj hy3
    clear hy3
    obtain ⟨hz5, hy5⟩ := Prod.mk.inj hy4
    clear hy4
    obtain ⟨hz6, hy6⟩ := Prod.mk.inj hy5
    clear hy5
    subst hz1
    subst hz2
    subst hz3
    subst hz4
    subst hz5
    subst hz6
    subst hy6
    exact hret _ _ dX8_off_11 rfl

theorem lkX8_letter_1 : Cond.fieldLink RX8 77 "TwiceHeardModel" "letters" "I" ∈ wsX8_letter := List.mem_of_getElem? (i := 1) rfl
theorem lkX8_letter_2 : Cond.constant RX8 180 (-1000000001) ∈ wsX8_letter := List.mem_of_getElem? (i := 2) rfl
theorem lkX8_letter_3 : Cond.fieldLink RX8 25 "TwiceHeardModel" "from" "[I" ∈ wsX8_letter := List.mem_of_getElem? (i := 3) rfl
theorem lkX8_letter_4 : Cond.fieldLink RX8 28 "TwiceHeardModel" "to" "[I" ∈ wsX8_letter := List.mem_of_getElem? (i := 4) rfl
theorem lkX8_letter_5 : Cond.constant RX8 179 (-1000000002) ∈ wsX8_letter := List.mem_of_getElem? (i := 5) rfl
theorem inX8_letter_X8 : ∀ w ∈ wsX80, w ∈ wsX8_letter := fun w h => List.mem_cons_of_mem _ (List.mem_append_right _ h)
abbrev rmX8_letter : Room := { frames := 4, cells := 0, slots := 0, locals := 90 }
theorem hdX8_letter : yX8_letter.cls = RX8 ∧ yX8_letter.cls ≠ "java/lang/invoke/MethodHandle" ∧ yX8_letter.cls ≠ "java/lang/invoke/VarHandle" ∧ (parseMethodDescriptor yX8_letter.desc).map (fun d => d.parameters.length) = some 2 := by decide +kernel
def fX8_letter (w : (Nat → Int32)) (ri : (Nat → Int32)) (fm : (Nat → Int32)) (tt : (Nat → Int32)) (le : Int32) (v1 : Int32) (v2 : Int32) : Option (Int32 × (Nat → Int32) × (Nat → Int32) × (Nat → Int32) × Int32) :=
  bd4 (fX8_layLetters w ri fm tt le) fun ri_1 fm_1 tt_1 le_1 =>
  (fX8_in v1 (0 : Int32) (le_1 - (1 : Int32))).bind fun x12 =>
  if x12 = 0 then (
  some ((-1000000001 : Int32), ri_1, fm_1, tt_1, le_1)) else (
  if v2 = (0 : Int32) then (
  (rdI 40 fm_1 v1).bind fun x53 =>
  some (x53, ri_1, fm_1, tt_1, le_1)) else (
  if v2 = (1 : Int32) then (
  (rdI 40 tt_1 v1).bind fun x60 =>
  some (x60, ri_1, fm_1, tt_1, le_1)) else (
  if v2 = (2 : Int32) then (
  (fX8_comes w fm_1 tt_1 v1).bind fun x64 =>
  if x64 = 0 then (
  some ((0 : Int32), ri_1, fm_1, tt_1, le_1)) else (
  some ((1 : Int32), ri_1, fm_1, tt_1, le_1))) else (
  some ((-1000000002 : Int32), ri_1, fm_1, tt_1, le_1)))))
set_option maxRecDepth 100000 in
set_option maxHeartbeats 4000000 in
theorem kX8_letter (l : Launch) (D : va_G) (cI cJ cZ cN cM : ClassId) (a : Nat → Nat) (w : (Nat → Int32)) (kn : Int32) (kp : Int32) (sd : Int32) (ks : (Nat → Int32)) (bo : (Nat → Int32)) (bi : (Nat → Int32)) (bk : Int32) (ri : (Nat → Int32)) (fm : (Nat → Int32)) (tt : (Nat → Int32)) (le : Int32) (wa : (Nat → Int32)) (hd : (Nat → Int64)) (sx : (Nat → Int32)) (b1 : (Nat → Int64)) (b2 : (Nat → Int64)) (v1 : Int32) (v2 : Int32) (r : Int32) (ri_o : (Nat → Int32)) (fm_o : (Nat → Int32)) (tt_o : (Nat → Int32)) (le_o : Int32) (hf : fX8_letter w ri fm tt le v1 v2 = some (r, ri_o, fm_o, tt_o, le_o)) : MetI l yX8_letter wsX8_letter rmX8_letter D (TYL cI cJ cZ cN cM) [.ref (a 0), .int v1, .int v2] (mW cI cJ cZ cN cM a w kn kp sd ks bo bi bk ri fm tt le wa hd sx b1 b2) (mW cI cJ cZ cN cM a w kn kp sd ks bo bi bk ri_o fm_o tt_o le_o wa hd sx b1 b2) r := by
  refine MetI.mk (cc := cX8_letter) (maxL := 3) (own := RX8) (ty := .int) [(0, .ref (a 0)), (1, .int v1), (2, .int v2)] (by decide +kernel) rfl rfl (Nat.le_of_ble_eq_true rfl) rfl ?_
  intro p e s m args below meth c A Q C hret
  unfold fX8_letter at hf
  refine q_aload_n C 0 dX8_letter_0 rfl ?_
  obtain ⟨ri_1, fm_1, tt_1, le_1, hM, hf⟩ := bd4_e hf
  refine q_callVV C (mW cI cJ cZ cN cM a w kn kp sd ks bo bi bk ri_1 fm_1 tt_1 le_1 wa hd sx b1 b2) (kX8_layLetters l D cI cJ cZ cN cM a w kn kp sd ks bo bi bk ri fm tt le wa hd sx b1 b2  ri_1 fm_1 tt_1 le_1 hM) (cwV 0 C.1.2.2.2.2 gX8_letter_X8_layLetters rfl rfl rfl hdX8_layLetters ⟨Nat.le_of_ble_eq_true rfl, Nat.le_of_ble_eq_true rfl⟩) 0 7 rfl rfl FrX.all rfl rfl (Nat.le_of_ble_eq_true rfl) dX8_letter_1 ⟨Nat.zero_le _, Nat.zero_le _⟩ ?_
  refine q_iload_n C 1 dX8_letter_4 rfl ?_
  refine q_iconst C 0 dX8_letter_5 (by decide) ?_
  refine q_aload_n C 0 dX8_letter_6 rfl ?_
  refine q_get C 0 11 dX8_letter_7 rfl rfl (Nat.le_of_ble_eq_true rfl) inX8_letter_X8 lkX8_letter_1 rfl rfl ?_
  refine q_iconst C 1 dX8_letter_10 (by decide) ?_
  refine q_isub C dX8_letter_11 ?_
  obtain ⟨x12, hM, hf⟩ := bd_e hf
  refine q_callSI C (mW cI cJ cZ cN cM a w kn kp sd ks bo bi bk ri_1 fm_1 tt_1 le_1 wa hd sx b1 b2) (kX8_in l D cI cJ cZ cN cM   v1 (0 : Int32) (le_1 - (1 : Int32)) x12 hM) (va_cwS 3 C.1.2.2.2.2 gX8_letter_X8_in rfl rfl rfl hdX8_in ⟨Nat.le_of_ble_eq_true rfl, Nat.le_of_ble_eq_true rfl⟩) FrX.none rfl rfl (Nat.le_of_ble_eq_true rfl) dX8_letter_12 ⟨Nat.zero_le _, Nat.zero_le _⟩ ?_
  refine q_if_ne C 21 dX8_letter_15 (by decide) hf (fun hf => ?_) (fun hf => ?_)
  · refine q_iload_n C 2 dX8_letter_21 rfl ?_
    refine q_sw C 0 26 0 48 dX8_letter_22 rfl (by decide) (by decide) rfl (by decide) hf (fun hf => ?_) (fun hn0 hf => ?_)
    · refine q_aload_n C 0 dX8_letter_48 rfl ?_
      refine q_get C 0 9 dX8_letter_49 rfl rfl (Nat.le_of_ble_eq_true rfl) inX8_letter_X8 lkX8_letter_3 rfl rfl ?_
      refine q_iload_n C 1 dX8_letter_52 rfl ?_
      refine q_iald C 6 0 dX8_letter_53 rfl rfl hf (fun x53 hf => ?_)
      have hy0 := Option.some.inj hf
      clear hf
      obtain ⟨hz1, hy1⟩ := Prod.mk.inj hy0
      clear hy0
      obtain ⟨hz2, hy2⟩ := Prod.mk.inj hy1
      clear hy1
      obtain ⟨hz3, hy3⟩ := Prod.mk.inj hy2
      clear hy2
      obtain ⟨hz4, hy4⟩ := Prod.mk.inj hy3
      clear hy3
      subst hz1
      subst hz2
      subst hz3
      subst hz4
      subst hy4
      exact hret _ _ dX8_letter_54 rfl
    refine q_sw C 1 33 1 55 dX8_letter_22 rfl (by decide) (by decide) rfl (by decide) hf (fun hf => ?_) (fun hn1 hf => ?_)
    · refine q_aload_n C 0 dX8_letter_55 rfl ?_
      refine q_get C 0 10 dX8_letter_56 rfl rfl (Nat.le_of_ble_eq_true rfl) inX8_letter_X8 lkX8_letter_4 rfl rfl ?_
      refine q_iload_n C 1 dX8_letter_59 rfl ?_
      refine q_iald C 7 0 dX8_letter_60 rfl rfl hf (fun x60 hf => ?_)
      have hy0 := Option.some.inj hf
      clear hf
      obtain ⟨hz1, hy1⟩ := Prod.mk.inj hy0
      clear hy0
      obtain ⟨hz2, hy2⟩ := Prod.mk.inj hy1
      clear hy1
      obtain ⟨hz3, hy3⟩ := Prod.mk.inj hy2
      clear hy2
      obtain ⟨hz4, hy4⟩ := Prod.mk.inj hy3
      clear hy3
      subst hz1
      subst hz2
      subst hz3
      subst hz4
      subst hy4
      exact hret _ _ dX8_letter_61 rfl
    refine q_sw C 2 40 2 62 dX8_letter_22 rfl (by decide) (by decide) rfl (by decide) hf (fun hf => ?_) (fun hn2 hf => ?_)
    · refine q_aload_n C 0 dX8_letter_62 rfl ?_
      refine q_iload_n C 1 dX8_letter_63 rfl ?_
      obtain ⟨x64, hM, hf⟩ := bd_e hf
      refine q_callVI C (mW cI cJ cZ cN cM a w kn kp sd ks bo bi bk ri_1 fm_1 tt_1 le_1 wa hd sx b1 b2) (kX8_comes l D cI cJ cZ cN cM a w kn kp sd ks bo bi bk ri_1 fm_1 tt_1 le_1 wa hd sx b1 b2 v1 x64 hM) (cwV 1 C.1.2.2.2.2 gX8_letter_X8_comes rfl rfl rfl hdX8_comes ⟨Nat.le_of_ble_eq_true rfl, Nat.le_of_ble_eq_true rfl⟩) 0 7 rfl rfl FrX.all rfl rfl (Nat.le_of_ble_eq_true rfl) dX8_letter_64 ⟨Nat.zero_le _, Nat.zero_le _⟩ ?_
      refine q_if_eq C 74 dX8_letter_67 (by decide) hf (fun hf => ?_) (fun hf => ?_)
      · refine q_iconst C 0 dX8_letter_74 (by decide) ?_
        have hy0 := Option.some.inj hf
        clear hf
        obtain ⟨hz1, hy1⟩ := Prod.mk.inj hy0
        clear hy0
        obtain ⟨hz2, hy2⟩ := Prod.mk.inj hy1
        clear hy1
        obtain ⟨hz3, hy3⟩ := Prod.mk.inj hy2
        clear hy2
        obtain ⟨hz4, hy4⟩ := Prod.mk.inj hy3
        clear hy3
        subst hz1
        subst hz2
        subst hz3
        subst hz4
        subst hy4
        exact hret _ _ dX8_letter_75 rfl
      · refine q_iconst C 1 dX8_letter_70 (by decide) ?_
        refine q_goto C 75 dX8_letter_71 (by decide) ?_
        have hy0 := Option.some.inj hf
        clear hf
        obtain ⟨hz1, hy1⟩ := Prod.mk.inj hy0
        clear hy0
        obtain ⟨hz2, hy2⟩ := Prod.mk.inj hy1
        clear hy1
        obtain ⟨hz3, hy3⟩ := Prod.mk.inj hy2
        clear hy2
        obtain ⟨hz4, hy4⟩ := Prod.mk.inj hy3
        clear hy3
        subst hz1
        subst hz2
        subst hz3
        subst hz4
        subst hy4
        exact hret _ _ dX8_letter_75 rfl
    have e0 := lv_neT (a := 0) hn0 rfl
    have e1 := lv_neT (a := 1) hn1 rfl
    have e2 := lv_neT (a := 2) hn2 rfl
    refine q_swD C 76 dX8_letter_22 (by omega) (by decide) ?_
    refine q_ldc C dX8_letter_76 lkX8_letter_5 ?_
    have hy0 := Option.some.inj hf
    clear hf
    obtain ⟨hz1, hy1⟩ := Prod.mk.inj hy0
    clear hy0
    obtain ⟨hz2, hy2⟩ := Prod.mk.inj hy1
    clear hy1
    obtain ⟨hz3, hy3⟩ := Prod.mk.inj hy2
    clear hy2
    obtain ⟨hz4, hy4⟩ := Prod.mk.inj hy3
    clear hy3
    subst hz1
    subst hz2
    subst hz3
    subst hz4
    subst hy4
    exact hret _ _ dX8_letter_78 rfl
  · refine q_ldc C dX8_letter_18 lkX8_letter_2 ?_
    have hy0 := Option.some.inj hf
    clear hf
    obtain ⟨hz1, hy1⟩ := Prod.mk.inj hy0
    clear hy0
    obtain ⟨hz2, hy2⟩ := Prod.mk.inj hy1
    clear hy1
    obtain ⟨hz3, hy3⟩ := Prod.mk.inj hy2
    clear hy2
    obtain ⟨hz4, hy4⟩ := Prod.mk.inj hy3
    clear hy3
    subst hz1
    subst hz2
    subst hz3
    subst hz4
    subst hy4
    exact hret _ _ dX8_letter_20 rfl

theorem lkX8_sent_1 : Cond.fieldLink RX8 77 "TwiceHeardModel" "letters" "I" ∈ wsX8_sent := List.mem_of_getElem? (i := 1) rfl
theorem lkX8_sent_2 : Cond.constantLong RX8 187 (-1000000001) ∈ wsX8_sent := List.mem_of_getElem? (i := 2) rfl
theorem lkX8_sent_3 : Cond.constantLong RX8 189 (-1000000002) ∈ wsX8_sent := List.mem_of_getElem? (i := 3) rfl
theorem lkX8_sent_4 : Cond.fieldLink RX8 34 "TwiceHeardModel" "held" "[J" ∈ wsX8_sent := List.mem_of_getElem? (i := 4) rfl
theorem lkX8_sent_5 : Cond.fieldLink RX8 25 "TwiceHeardModel" "from" "[I" ∈ wsX8_sent := List.mem_of_getElem? (i := 5) rfl
theorem inX8_sent_X8 : ∀ w ∈ wsX80, w ∈ wsX8_sent := fun w h => List.mem_cons_of_mem _ (List.mem_append_right _ h)
abbrev rmX8_sent : Room := { frames := 5, cells := 0, slots := 0, locals := 124 }
theorem hdX8_sent : yX8_sent.cls = RX8 ∧ yX8_sent.cls ≠ "java/lang/invoke/MethodHandle" ∧ yX8_sent.cls ≠ "java/lang/invoke/VarHandle" ∧ (parseMethodDescriptor yX8_sent.desc).map (fun d => d.parameters.length) = some 2 := by decide +kernel
def fX8_sent (w : (Nat → Int32)) (ri : (Nat → Int32)) (fm : (Nat → Int32)) (tt : (Nat → Int32)) (le : Int32) (hd : (Nat → Int64)) (sx : (Nat → Int32)) (v1 : Int32) (v2 : Int32) : Option (Int64 × (Nat → Int32) × (Nat → Int32) × (Nat → Int32) × Int32 × (Nat → Int64) × (Nat → Int32)) :=
  bd4 (fX8_layLetters w ri fm tt le) fun ri_1 fm_1 tt_1 le_1 =>
  (fX8_in v1 (0 : Int32) (le_1 - (1 : Int32))).bind fun x12 =>
  if x12 = 0 then (
  some ((-1000000001 : Int64), ri_1, fm_1, tt_1, le_1, hd, sx)) else (
  (fX8_in v2 (0 : Int32) (3 : Int32)).bind fun x25 =>
  if x25 = 0 then (
  some ((-1000000002 : Int64), ri_1, fm_1, tt_1, le_1, hd, sx)) else (
  bd6 (fX8_layHeld w ri_1 fm_1 tt_1 le_1 hd sx v2) fun ri_37 fm_37 tt_37 le_37 hd_37 sx_37 =>
  (rdI 40 fm_37 v1).bind fun x49 =>
  (rdL 9 hd_37 x49).bind fun x50 =>
  some (x50, ri_37, fm_37, tt_37, le_37, hd_37, sx_37)))
set_option maxRecDepth 100000 in
set_option maxHeartbeats 4000000 in
theorem kX8_sent (l : Launch) (D : va_G) (cI cJ cZ cN cM : ClassId) (a : Nat → Nat) (w : (Nat → Int32)) (kn : Int32) (kp : Int32) (sd : Int32) (ks : (Nat → Int32)) (bo : (Nat → Int32)) (bi : (Nat → Int32)) (bk : Int32) (ri : (Nat → Int32)) (fm : (Nat → Int32)) (tt : (Nat → Int32)) (le : Int32) (wa : (Nat → Int32)) (hd : (Nat → Int64)) (sx : (Nat → Int32)) (b1 : (Nat → Int64)) (b2 : (Nat → Int64)) (v1 : Int32) (v2 : Int32) (r : Int64) (ri_o : (Nat → Int32)) (fm_o : (Nat → Int32)) (tt_o : (Nat → Int32)) (le_o : Int32) (hd_o : (Nat → Int64)) (sx_o : (Nat → Int32)) (hf : fX8_sent w ri fm tt le hd sx v1 v2 = some (r, ri_o, fm_o, tt_o, le_o, hd_o, sx_o)) : MetL l yX8_sent wsX8_sent rmX8_sent D (TYL cI cJ cZ cN cM) [.ref (a 0), .int v1, .int v2] (mW cI cJ cZ cN cM a w kn kp sd ks bo bi bk ri fm tt le wa hd sx b1 b2) (mW cI cJ cZ cN cM a w kn kp sd ks bo bi bk ri_o fm_o tt_o le_o wa hd_o sx_o b1 b2) r := by
  refine MetL.mk (cc := cX8_sent) (maxL := 3) (own := RX8) [(0, .ref (a 0)), (1, .int v1), (2, .int v2)] (by decide +kernel) rfl rfl (Nat.le_of_ble_eq_true rfl) rfl ?_
  intro p e s m args below meth c A Q C hret
  unfold fX8_sent at hf
  refine q_aload_n C 0 dX8_sent_0 rfl ?_
  obtain ⟨ri_1, fm_1, tt_1, le_1, hM, hf⟩ := bd4_e hf
  refine q_callVV C (mW cI cJ cZ cN cM a w kn kp sd ks bo bi bk ri_1 fm_1 tt_1 le_1 wa hd sx b1 b2) (kX8_layLetters l D cI cJ cZ cN cM a w kn kp sd ks bo bi bk ri fm tt le wa hd sx b1 b2  ri_1 fm_1 tt_1 le_1 hM) (cwV 0 C.1.2.2.2.2 gX8_sent_X8_layLetters rfl rfl rfl hdX8_layLetters ⟨Nat.le_of_ble_eq_true rfl, Nat.le_of_ble_eq_true rfl⟩) 0 7 rfl rfl FrX.all rfl rfl (Nat.le_of_ble_eq_true rfl) dX8_sent_1 ⟨Nat.zero_le _, Nat.zero_le _⟩ ?_
  refine q_iload_n C 1 dX8_sent_4 rfl ?_
  refine q_iconst C 0 dX8_sent_5 (by decide) ?_
  refine q_aload_n C 0 dX8_sent_6 rfl ?_
  refine q_get C 0 11 dX8_sent_7 rfl rfl (Nat.le_of_ble_eq_true rfl) inX8_sent_X8 lkX8_sent_1 rfl rfl ?_
  refine q_iconst C 1 dX8_sent_10 (by decide) ?_
  refine q_isub C dX8_sent_11 ?_
  obtain ⟨x12, hM, hf⟩ := bd_e hf
  refine q_callSI C (mW cI cJ cZ cN cM a w kn kp sd ks bo bi bk ri_1 fm_1 tt_1 le_1 wa hd sx b1 b2) (kX8_in l D cI cJ cZ cN cM   v1 (0 : Int32) (le_1 - (1 : Int32)) x12 hM) (va_cwS 3 C.1.2.2.2.2 gX8_sent_X8_in rfl rfl rfl hdX8_in ⟨Nat.le_of_ble_eq_true rfl, Nat.le_of_ble_eq_true rfl⟩) FrX.none rfl rfl (Nat.le_of_ble_eq_true rfl) dX8_sent_12 ⟨Nat.zero_le _, Nat.zero_le _⟩ ?_
  refine q_if_ne C 22 dX8_sent_15 (by decide) hf (fun hf => ?_) (fun hf => ?_)
  · refine q_iload_n C 2 dX8_sent_22 rfl ?_
    refine q_iconst C 0 dX8_sent_23 (by decide) ?_
    refine q_iconst C 3 dX8_sent_24 (by decide) ?_
    obtain ⟨x25, hM, hf⟩ := bd_e hf
    refine q_callSI C (mW cI cJ cZ cN cM a w kn kp sd ks bo bi bk ri_1 fm_1 tt_1 le_1 wa hd sx b1 b2) (kX8_in l D cI cJ cZ cN cM   v2 (0 : Int32) (3 : Int32) x25 hM) (va_cwS 3 C.1.2.2.2.2 gX8_sent_X8_in rfl rfl rfl hdX8_in ⟨Nat.le_of_ble_eq_true rfl, Nat.le_of_ble_eq_true rfl⟩) FrX.none rfl rfl (Nat.le_of_ble_eq_true rfl) dX8_sent_25 ⟨Nat.zero_le _, Nat.zero_le _⟩ ?_
    refine q_if_ne C 35 dX8_sent_28 (by decide) hf (fun hf => ?_) (fun hf => ?_)
    · refine q_aload_n C 0 dX8_sent_35 rfl ?_
      refine q_iload_n C 2 dX8_sent_36 rfl ?_
      obtain ⟨ri_37, fm_37, tt_37, le_37, hd_37, sx_37, hM, hf⟩ := bd6_e hf
      refine q_callVV C (mW cI cJ cZ cN cM a w kn kp sd ks bo bi bk ri_37 fm_37 tt_37 le_37 wa hd_37 sx_37 b1 b2) (kX8_layHeld l D cI cJ cZ cN cM a w kn kp sd ks bo bi bk ri_1 fm_1 tt_1 le_1 wa hd sx b1 b2 v2 ri_37 fm_37 tt_37 le_37 hd_37 sx_37 hM) (cwV 1 C.1.2.2.2.2 gX8_sent_X8_layHeld rfl rfl rfl hdX8_layHeld ⟨Nat.le_of_ble_eq_true rfl, Nat.le_of_ble_eq_true rfl⟩) 0 7 rfl rfl FrX.all rfl rfl (Nat.le_of_ble_eq_true rfl) dX8_sent_37 ⟨Nat.zero_le _, Nat.zero_le _⟩ ?_
      refine q_aload_n C 0 dX8_sent_40 rfl ?_
      refine q_get C 0 13 dX8_sent_41 rfl rfl (Nat.le_of_ble_eq_true rfl) inX8_sent_X8 lkX8_sent_4 rfl rfl ?_
      refine q_aload_n C 0 dX8_sent_44 rfl ?_
      refine q_get C 0 9 dX8_sent_45 rfl rfl (Nat.le_of_ble_eq_true rfl) inX8_sent_X8 lkX8_sent_5 rfl rfl ?_
      refine q_iload_n C 1 dX8_sent_48 rfl ?_
      refine q_iald C 6 0 dX8_sent_49 rfl rfl hf (fun x49 hf => ?_)
      refine q_lald C 9 1 dX8_sent_50 rfl rfl hf (fun x50 hf => ?_)
      have hy0 := Option.some.inj hf
      clear hf
      obtain ⟨hz1, hy1⟩ := Prod.mk.inj hy0
      clear hy0
      obtain ⟨hz2, hy2⟩ := Prod.mk.inj hy1
      clear hy1
      obtain ⟨hz3, hy3⟩ := Prod.mk.inj hy2
      clear hy2
      obtain ⟨hz4, hy4⟩ := Prod.mk.inj hy3
      clear hy3
      obtain ⟨hz5, hy5⟩ := Prod.mk.inj hy4
      clear hy4
      obtain ⟨hz6, hy6⟩ := Prod.mk.inj hy5
      clear hy5
      subst hz1
      subst hz2
      subst hz3
      subst hz4
      subst hz5
      subst hz6
      subst hy6
      exact hret _ _ dX8_sent_51
    · refine q_ldc2 C dX8_sent_31 lkX8_sent_3 ?_
      have hy0 := Option.some.inj hf
      clear hf
      obtain ⟨hz1, hy1⟩ := Prod.mk.inj hy0
      clear hy0
      obtain ⟨hz2, hy2⟩ := Prod.mk.inj hy1
      clear hy1
      obtain ⟨hz3, hy3⟩ := Prod.mk.inj hy2
      clear hy2
      obtain ⟨hz4, hy4⟩ := Prod.mk.inj hy3
      clear hy3
      obtain ⟨hz5, hy5⟩ := Prod.mk.inj hy4
      clear hy4
      obtain ⟨hz6, hy6⟩ := Prod.mk.inj hy5
      clear hy5
      subst hz1
      subst hz2
      subst hz3
      subst hz4
      subst hz5
      subst hz6
      subst hy6
      exact hret _ _ dX8_sent_34
  · refine q_ldc2 C dX8_sent_18 lkX8_sent_2 ?_
    have hy0 := Option.some.inj hf
    clear hf
    obtain ⟨hz1, hy1⟩ := Prod.mk.inj hy0
    clear hy0
    obtain ⟨hz2, hy2⟩ := Prod.mk.inj hy1
    clear hy1
    obtain ⟨hz3, hy3⟩ := Prod.mk.inj hy2
    clear hy2
    obtain ⟨hz4, hy4⟩ := Prod.mk.inj hy3
    clear hy3
    obtain ⟨hz5, hy5⟩ := Prod.mk.inj hy4
    clear hy4
    obtain ⟨hz6, hy6⟩ := Prod.mk.inj hy5
    clear hy5
    subst hz1
    subst hz2
    subst hz3
    subst hz4
    subst hz5
    subst hz6
    subst hy6
    exact hret _ _ dX8_sent_21

theorem lkX8_oneMore_1 : Cond.fieldLink RX8 44 "TwiceHeardModel" "more" "[J" ∈ wsX8_oneMore := List.mem_of_getElem? (i := 1) rfl
theorem lkX8_oneMore_2 : Cond.fieldLink RX8 41 "TwiceHeardModel" "by" "[J" ∈ wsX8_oneMore := List.mem_of_getElem? (i := 2) rfl
theorem inX8_oneMore_X8 : ∀ w ∈ wsX80, w ∈ wsX8_oneMore := fun w h => List.mem_cons_of_mem _ (List.mem_append_right _ h)
abbrev rmX8_oneMore : Room := { frames := 0, cells := 0, slots := 0, locals := 0 }
theorem hdX8_oneMore : yX8_oneMore.cls = RX8 ∧ yX8_oneMore.cls ≠ "java/lang/invoke/MethodHandle" ∧ yX8_oneMore.cls ≠ "java/lang/invoke/VarHandle" ∧ (parseMethodDescriptor yX8_oneMore.desc).map (fun d => d.parameters.length) = some 0 := by decide +kernel
def fX8_oneMore_L2  : Nat → Int32 → (Nat → Int64) → Option ((Nat → Int64))
  | 0, _, _ => none
  | n + 1, v1, b2 =>
  if (256 : Int32) ≤ v1 then (
  some b2) else (
  (wrL 256 b2 v1 (0 : Int64)).bind fun b2_15 =>
  fX8_oneMore_L2 n (v1 + 1) b2_15)
def fX8_oneMore_L33 (b1 : (Nat → Int64)) (v1 : Int32) : Nat → Int32 → (Nat → Int64) → Option ((Nat → Int64))
  | 0, _, _ => none
  | n + 1, v2, b2 =>
  if (8 : Int32) ≤ v2 then (
  some b2) else (
  jn1 (fun (t0_55 : Int64) => 
  (rdL 256 b2 (v1 ||| ((1 : Int32) <<< (v2 &&& 31)))).bind fun x66 =>
  (rdL 256 b1 v1).bind fun x73 =>
  (wrL 256 b2 (v1 ||| ((1 : Int32) <<< (v2 &&& 31))) (x66 + (t0_55 * x73))).bind fun b2_76 =>
  fX8_oneMore_L33 b1 v1 n (v2 + 1) b2_76) fun k55 =>
  if v2 = (7 : Int32) then (
  k55 (1 : Int64)) else (
  k55 ((1 : Int64) <<< (((6 : Int32) - v2).toInt64 &&& 63))))
def fX8_oneMore_L24 (b1 : (Nat → Int64)) : Nat → Int32 → (Nat → Int64) → Option ((Nat → Int64))
  | 0, _, _ => none
  | n + 1, v1, b2 =>
  if (256 : Int32) ≤ v1 then (
  some b2) else (
  (fX8_oneMore_L33 b1 v1 300 (0 : Int32) b2).bind fun b2_33 =>
  fX8_oneMore_L24 b1 n (v1 + 1) b2_33)
def fX8_oneMore_L91 (b2 : (Nat → Int64)) : Nat → Int32 → (Nat → Int64) → Option ((Nat → Int64))
  | 0, _, _ => none
  | n + 1, v1, b1 =>
  if (256 : Int32) ≤ v1 then (
  some b1) else (
  (rdL 256 b2 v1).bind fun x108 =>
  (wrL 256 b1 v1 x108).bind fun b1_109 =>
  fX8_oneMore_L91 b2 n (v1 + 1) b1_109)
def fX8_oneMore (b1 : (Nat → Int64)) (b2 : (Nat → Int64))  : Option ((Nat → Int64) × (Nat → Int64)) :=
  (fX8_oneMore_L2  300 (0 : Int32) b2).bind fun b2_2 =>
  (fX8_oneMore_L24 b1 300 (0 : Int32) b2_2).bind fun b2_24 =>
  (fX8_oneMore_L91 b2_24 300 (0 : Int32) b1).bind fun b1_91 =>
  some (b1_91, b2_24)
set_option maxRecDepth 100000 in
set_option maxHeartbeats 4000000 in
theorem wX8_oneMore_L2 {p : Program} {l : Launch} {e : Env} {s : State} {m : MethodId} {args : Array Value} {below : List Frame} {meth : Method} {c : Code} {Q : State → Prop} {D : va_G} {A : Nat → Prop} {cI cJ cZ cN cM : ClassId} (C : Cx p s m args c cX8_oneMore 5 RX8 wsX8_oneMore D (TYL cI cJ cZ cN cM) A) (a : Nat → Nat) (w : (Nat → Int32)) (kn : Int32) (kp : Int32) (sd : Int32) (ks : (Nat → Int32)) (bo : (Nat → Int32)) (bi : (Nat → Int32)) (bk : Int32) (ri : (Nat → Int32)) (fm : (Nat → Int32)) (tt : (Nat → Int32)) (le : Int32) (wa : (Nat → Int32)) (hd : (Nat → Int64)) (sx : (Nat → Int32)) (b1 : (Nat → Int64))  (b2_o : (Nat → Int64)) (kk : WW p l e rmX8_oneMore s m args below meth c Q D A 5 0 0 (mW cI cJ cZ cN cM a w kn kp sd ks bo bi bk ri fm tt le wa hd sx b1 b2_o) [(0, .ref (a 0))] 22 []) : ∀ (n : Nat) (v1 : Int32) (b2 : (Nat → Int64)), fX8_oneMore_L2  n v1 b2 = some b2_o → WW p l e rmX8_oneMore s m args below meth c Q D A 5 0 0 (mW cI cJ cZ cN cM a w kn kp sd ks bo bi bk ri fm tt le wa hd sx b1 b2) [(0, .ref (a 0)), (1, .int v1)] 2 [] := by
  intro n
  induction n with
  | zero =>
    intro v1 b2 hf
    rw [fX8_oneMore_L2] at hf
    cases hf
  | succ n ih =>
    intro v1 b2 hf
    rw [fX8_oneMore_L2] at hf
    refine q_iload_n C 1 dX8_oneMore_2 rfl ?_
    refine q_sipush C 256 dX8_oneMore_3 (by decide) ?_
    refine q_icmp_ge C 22 dX8_oneMore_6 (by decide) hf (fun hf => ?_) (fun hf => ?_)
    · refine q_lv [(0, .ref (a 0))] [0] rfl ?_
      have hz1 := Option.some.inj hf
      clear hf
      subst hz1
      exact kk
    · refine q_aload_n C 0 dX8_oneMore_9 rfl ?_
      refine q_get C 0 16 dX8_oneMore_10 rfl rfl (Nat.le_of_ble_eq_true rfl) inX8_oneMore_X8 lkX8_oneMore_1 rfl rfl ?_
      refine q_iload_n C 1 dX8_oneMore_13 rfl ?_
      refine q_lconst C 0 dX8_oneMore_14 (by decide) ?_
      refine q_last C 12 1 (fun b2_15 => mW cI cJ cZ cN cM a w kn kp sd ks bo bi bk ri fm tt le wa hd sx b1 b2_15) dX8_oneMore_15 rfl rfl (fun _ => rfl) hf (fun b2_15 hf => ?_)
      refine q_iinc C (v1 + 1) 1 [(1, .int (v1 + 1)), (0, .ref (a 0))] dX8_oneMore_16 rfl rfl (by decide) rfl ?_
      refine q_goto C 2 dX8_oneMore_19 (by decide) ?_
      refine q_lv [(0, .ref (a 0)), (1, .int (v1 + 1))] [1, 0] rfl ?_
      exact ih _ _ hf
set_option maxRecDepth 100000 in
set_option maxHeartbeats 4000000 in
theorem wX8_oneMore_L33 {p : Program} {l : Launch} {e : Env} {s : State} {m : MethodId} {args : Array Value} {below : List Frame} {meth : Method} {c : Code} {Q : State → Prop} {D : va_G} {A : Nat → Prop} {cI cJ cZ cN cM : ClassId} (C : Cx p s m args c cX8_oneMore 5 RX8 wsX8_oneMore D (TYL cI cJ cZ cN cM) A) (a : Nat → Nat) (w : (Nat → Int32)) (kn : Int32) (kp : Int32) (sd : Int32) (ks : (Nat → Int32)) (bo : (Nat → Int32)) (bi : (Nat → Int32)) (bk : Int32) (ri : (Nat → Int32)) (fm : (Nat → Int32)) (tt : (Nat → Int32)) (le : Int32) (wa : (Nat → Int32)) (hd : (Nat → Int64)) (sx : (Nat → Int32)) (b1 : (Nat → Int64)) (v1 : Int32) (b2_o : (Nat → Int64)) (kk : WW p l e rmX8_oneMore s m args below meth c Q D A 5 0 0 (mW cI cJ cZ cN cM a w kn kp sd ks bo bi bk ri fm tt le wa hd sx b1 b2_o) [(0, .ref (a 0)), (1, .int v1)] 83 []) : ∀ (n : Nat) (v2 : Int32) (b2 : (Nat → Int64)), fX8_oneMore_L33 b1 v1 n v2 b2 = some b2_o → WW p l e rmX8_oneMore s m args below meth c Q D A 5 0 0 (mW cI cJ cZ cN cM a w kn kp sd ks bo bi bk ri fm tt le wa hd sx b1 b2) [(0, .ref (a 0)), (1, .int v1), (2, .int v2)] 33 [] := by
  intro n
  induction n with
  | zero =>
    intro v2 b2 hf
    rw [fX8_oneMore_L33] at hf
    cases hf
  | succ n ih =>
    intro v2 b2 hf
    rw [fX8_oneMore_L33] at hf
    refine q_iload_n C 2 dX8_oneMore_33 rfl ?_
    refine q_bipush C 8 dX8_oneMore_34 (by decide) ?_
    refine q_icmp_ge C 83 dX8_oneMore_36 (by decide) hf (fun hf => ?_) (fun hf => ?_)
    · refine q_lv [(0, .ref (a 0)), (1, .int v1)] [0, 1] rfl ?_
      have hz1 := Option.some.inj hf
      clear hf
      subst hz1
      exact kk
    · refine q_iload_n C 2 dX8_oneMore_39 rfl ?_
      refine q_bipush C 7 dX8_oneMore_40 (by decide) ?_
      refine jn1_e (fun (t0_55 : Int64) => WW p l e rmX8_oneMore s m args below meth c Q D A 5 0 0 (mW cI cJ cZ cN cM a w kn kp sd ks bo bi bk ri fm tt le wa hd sx b1 b2) [(0, .ref (a 0)), (1, .int v1), (2, .int v2)] 55 [.long t0_55]) hf ?_ ?_
      · intro t0_55 hf
        refine q_lstore_n C [(3, .long t0_55), (0, .ref (a 0)), (1, .int v1), (2, .int v2)] dX8_oneMore_55 (by decide) rfl ?_
        refine q_aload_n C 1 dX8_oneMore_56 rfl ?_
        refine q_get C 0 16 dX8_oneMore_57 rfl rfl (Nat.le_of_ble_eq_true rfl) inX8_oneMore_X8 lkX8_oneMore_1 rfl rfl ?_
        refine q_iload_n C 2 dX8_oneMore_60 rfl ?_
        refine q_iconst C 1 dX8_oneMore_61 (by decide) ?_
        refine q_iload_n C 3 dX8_oneMore_62 rfl ?_
        refine q_ishl C dX8_oneMore_63 ?_
        refine q_ior C dX8_oneMore_64 ?_
        refine q_dup2 C dX8_oneMore_65 rfl rfl ?_
        refine q_lald C 12 1 dX8_oneMore_66 rfl rfl hf (fun x66 hf => ?_)
        refine q_lload_n C 0 dX8_oneMore_67 rfl ?_
        refine q_aload_n C 1 dX8_oneMore_68 rfl ?_
        refine q_get C 0 15 dX8_oneMore_69 rfl rfl (Nat.le_of_ble_eq_true rfl) inX8_oneMore_X8 lkX8_oneMore_2 rfl rfl ?_
        refine q_iload_n C 2 dX8_oneMore_72 rfl ?_
        refine q_lald C 11 1 dX8_oneMore_73 rfl rfl hf (fun x73 hf => ?_)
        refine q_lmul C dX8_oneMore_74 ?_
        refine q_ladd C dX8_oneMore_75 ?_
        refine q_last C 12 1 (fun b2_76 => mW cI cJ cZ cN cM a w kn kp sd ks bo bi bk ri fm tt le wa hd sx b1 b2_76) dX8_oneMore_76 rfl rfl (fun _ => rfl) hf (fun b2_76 hf => ?_)
        refine q_iinc C (v2 + 1) 3 [(2, .int (v2 + 1)), (3, .long t0_55), (0, .ref (a 0)), (1, .int v1)] dX8_oneMore_77 rfl rfl (by decide) rfl ?_
        refine q_goto C 33 dX8_oneMore_80 (by decide) ?_
        refine q_lv [(0, .ref (a 0)), (1, .int v1), (2, .int (v2 + 1))] [2, 3, 0] rfl ?_
        exact ih _ _ hf
      intro k55 J55 hf
      refine q_icmp_ne C 49 dX8_oneMore_42 (by decide) hf (fun hf => ?_) (fun hf => ?_)
      · refine q_lconst C 1 dX8_oneMore_49 (by decide) ?_
        refine q_bipush C 6 dX8_oneMore_50 (by decide) ?_
        refine q_iload_n C 2 dX8_oneMore_52 rfl ?_
        refine q_isub C dX8_oneMore_53 ?_
        refine q_lshl C dX8_oneMore_54 ?_
        exact J55 _ hf
      · refine q_lconst C 1 dX8_oneMore_45 (by decide) ?_
        refine q_goto C 55 dX8_oneMore_46 (by decide) ?_
        exact J55 _ hf
set_option maxRecDepth 100000 in
set_option maxHeartbeats 4000000 in
theorem wX8_oneMore_L24 {p : Program} {l : Launch} {e : Env} {s : State} {m : MethodId} {args : Array Value} {below : List Frame} {meth : Method} {c : Code} {Q : State → Prop} {D : va_G} {A : Nat → Prop} {cI cJ cZ cN cM : ClassId} (C : Cx p s m args c cX8_oneMore 5 RX8 wsX8_oneMore D (TYL cI cJ cZ cN cM) A) (a : Nat → Nat) (w : (Nat → Int32)) (kn : Int32) (kp : Int32) (sd : Int32) (ks : (Nat → Int32)) (bo : (Nat → Int32)) (bi : (Nat → Int32)) (bk : Int32) (ri : (Nat → Int32)) (fm : (Nat → Int32)) (tt : (Nat → Int32)) (le : Int32) (wa : (Nat → Int32)) (hd : (Nat → Int64)) (sx : (Nat → Int32)) (b1 : (Nat → Int64))  (b2_o : (Nat → Int64)) (kk : WW p l e rmX8_oneMore s m args below meth c Q D A 5 0 0 (mW cI cJ cZ cN cM a w kn kp sd ks bo bi bk ri fm tt le wa hd sx b1 b2_o) [(0, .ref (a 0))] 89 []) : ∀ (n : Nat) (v1 : Int32) (b2 : (Nat → Int64)), fX8_oneMore_L24 b1 n v1 b2 = some b2_o → WW p l e rmX8_oneMore s m args below meth c Q D A 5 0 0 (mW cI cJ cZ cN cM a w kn kp sd ks bo bi bk ri fm tt le wa hd sx b1 b2) [(0, .ref (a 0)), (1, .int v1)] 24 [] := by
  intro n
  induction n with
  | zero =>
    intro v1 b2 hf
    rw [fX8_oneMore_L24] at hf
    cases hf
  | succ n ih =>
    intro v1 b2 hf
    rw [fX8_oneMore_L24] at hf
    refine q_iload_n C 1 dX8_oneMore_24 rfl ?_
    refine q_sipush C 256 dX8_oneMore_25 (by decide) ?_
    refine q_icmp_ge C 89 dX8_oneMore_28 (by decide) hf (fun hf => ?_) (fun hf => ?_)
    · refine q_lv [(0, .ref (a 0))] [0] rfl ?_
      have hz1 := Option.some.inj hf
      clear hf
      subst hz1
      exact kk
    · refine q_iconst C 0 dX8_oneMore_31 (by decide) ?_
      refine q_istore_n C [(2, .int (0 : Int32)), (0, .ref (a 0)), (1, .int v1)] dX8_oneMore_32 (by decide) rfl ?_
      obtain ⟨b2_33, hL, hf⟩ := bd_e hf
      refine q_lv [(0, .ref (a 0)), (1, .int v1), (2, .int (0 : Int32))] [1, 2, 0] rfl ?_
      refine wX8_oneMore_L33 C a w kn kp sd ks bo bi bk ri fm tt le wa hd sx b1 v1 b2_33 ?_ 300 _ _ hL
      refine q_iinc C (v1 + 1) 1 [(1, .int (v1 + 1)), (0, .ref (a 0))] dX8_oneMore_83 rfl rfl (by decide) rfl ?_
      refine q_goto C 24 dX8_oneMore_86 (by decide) ?_
      refine q_lv [(0, .ref (a 0)), (1, .int (v1 + 1))] [1, 0] rfl ?_
      exact ih _ _ hf
set_option maxRecDepth 100000 in
set_option maxHeartbeats 4000000 in
theorem wX8_oneMore_L91 {p : Program} {l : Launch} {e : Env} {s : State} {m : MethodId} {args : Array Value} {below : List Frame} {meth : Method} {c : Code} {Q : State → Prop} {D : va_G} {A : Nat → Prop} {cI cJ cZ cN cM : ClassId} (C : Cx p s m args c cX8_oneMore 5 RX8 wsX8_oneMore D (TYL cI cJ cZ cN cM) A) (a : Nat → Nat) (w : (Nat → Int32)) (kn : Int32) (kp : Int32) (sd : Int32) (ks : (Nat → Int32)) (bo : (Nat → Int32)) (bi : (Nat → Int32)) (bk : Int32) (ri : (Nat → Int32)) (fm : (Nat → Int32)) (tt : (Nat → Int32)) (le : Int32) (wa : (Nat → Int32)) (hd : (Nat → Int64)) (sx : (Nat → Int32)) (b2 : (Nat → Int64))  (b1_o : (Nat → Int64)) (kk : WW p l e rmX8_oneMore s m args below meth c Q D A 5 0 0 (mW cI cJ cZ cN cM a w kn kp sd ks bo bi bk ri fm tt le wa hd sx b1_o b2) [] 116 []) : ∀ (n : Nat) (v1 : Int32) (b1 : (Nat → Int64)), fX8_oneMore_L91 b2 n v1 b1 = some b1_o → WW p l e rmX8_oneMore s m args below meth c Q D A 5 0 0 (mW cI cJ cZ cN cM a w kn kp sd ks bo bi bk ri fm tt le wa hd sx b1 b2) [(0, .ref (a 0)), (1, .int v1)] 91 [] := by
  intro n
  induction n with
  | zero =>
    intro v1 b1 hf
    rw [fX8_oneMore_L91] at hf
    cases hf
  | succ n ih =>
    intro v1 b1 hf
    rw [fX8_oneMore_L91] at hf
    refine q_iload_n C 1 dX8_oneMore_91 rfl ?_
    refine q_sipush C 256 dX8_oneMore_92 (by decide) ?_
    refine q_icmp_ge C 116 dX8_oneMore_95 (by decide) hf (fun hf => ?_) (fun hf => ?_)
    · refine q_lv [] [] rfl ?_
      have hz1 := Option.some.inj hf
      clear hf
      subst hz1
      exact kk
    · refine q_aload_n C 0 dX8_oneMore_98 rfl ?_
      refine q_get C 0 15 dX8_oneMore_99 rfl rfl (Nat.le_of_ble_eq_true rfl) inX8_oneMore_X8 lkX8_oneMore_2 rfl rfl ?_
      refine q_iload_n C 1 dX8_oneMore_102 rfl ?_
      refine q_aload_n C 0 dX8_oneMore_103 rfl ?_
      refine q_get C 0 16 dX8_oneMore_104 rfl rfl (Nat.le_of_ble_eq_true rfl) inX8_oneMore_X8 lkX8_oneMore_1 rfl rfl ?_
      refine q_iload_n C 1 dX8_oneMore_107 rfl ?_
      refine q_lald C 12 1 dX8_oneMore_108 rfl rfl hf (fun x108 hf => ?_)
      refine q_last C 11 1 (fun b1_109 => mW cI cJ cZ cN cM a w kn kp sd ks bo bi bk ri fm tt le wa hd sx b1_109 b2) dX8_oneMore_109 rfl rfl (fun _ => rfl) hf (fun b1_109 hf => ?_)
      refine q_iinc C (v1 + 1) 1 [(1, .int (v1 + 1)), (0, .ref (a 0))] dX8_oneMore_110 rfl rfl (by decide) rfl ?_
      refine q_goto C 91 dX8_oneMore_113 (by decide) ?_
      refine q_lv [(0, .ref (a 0)), (1, .int (v1 + 1))] [1, 0] rfl ?_
      exact ih _ _ hf
set_option maxRecDepth 100000 in
set_option maxHeartbeats 4000000 in
theorem kX8_oneMore (l : Launch) (D : va_G) (cI cJ cZ cN cM : ClassId) (a : Nat → Nat) (w : (Nat → Int32)) (kn : Int32) (kp : Int32) (sd : Int32) (ks : (Nat → Int32)) (bo : (Nat → Int32)) (bi : (Nat → Int32)) (bk : Int32) (ri : (Nat → Int32)) (fm : (Nat → Int32)) (tt : (Nat → Int32)) (le : Int32) (wa : (Nat → Int32)) (hd : (Nat → Int64)) (sx : (Nat → Int32)) (b1 : (Nat → Int64)) (b2 : (Nat → Int64))  (b1_o : (Nat → Int64)) (b2_o : (Nat → Int64)) (hf : fX8_oneMore b1 b2 = some (b1_o, b2_o)) : MetV l yX8_oneMore wsX8_oneMore rmX8_oneMore D (TYL cI cJ cZ cN cM) [.ref (a 0)] (mW cI cJ cZ cN cM a w kn kp sd ks bo bi bk ri fm tt le wa hd sx b1 b2) (mW cI cJ cZ cN cM a w kn kp sd ks bo bi bk ri fm tt le wa hd sx b1_o b2_o) := by
  refine MetV.mk (cc := cX8_oneMore) (maxL := 5) (own := RX8) [(0, .ref (a 0))] (by decide +kernel) rfl rfl (Nat.le_of_ble_eq_true rfl) rfl ?_
  intro p e s m args below meth c A Q C hret
  unfold fX8_oneMore at hf
  refine q_iconst C 0 dX8_oneMore_0 (by decide) ?_
  refine q_istore_n C [(1, .int (0 : Int32)), (0, .ref (a 0))] dX8_oneMore_1 (by decide) rfl ?_
  obtain ⟨b2_2, hL, hf⟩ := bd_e hf
  refine q_lv [(0, .ref (a 0)), (1, .int (0 : Int32))] [1, 0] rfl ?_
  refine wX8_oneMore_L2 C a w kn kp sd ks bo bi bk ri fm tt le wa hd sx b1  b2_2 ?_ 300 _ _ hL
  refine q_iconst C 0 dX8_oneMore_22 (by decide) ?_
  refine q_istore_n C [(1, .int (0 : Int32)), (0, .ref (a 0))] dX8_oneMore_23 (by decide) rfl ?_
  obtain ⟨b2_24, hL, hf⟩ := bd_e hf
  refine q_lv [(0, .ref (a 0)), (1, .int (0 : Int32))] [1, 0] rfl ?_
  refine wX8_oneMore_L24 C a w kn kp sd ks bo bi bk ri fm tt le wa hd sx b1  b2_24 ?_ 300 _ _ hL
  refine q_iconst C 0 dX8_oneMore_89 (by decide) ?_
  refine q_istore_n C [(1, .int (0 : Int32)), (0, .ref (a 0))] dX8_oneMore_90 (by decide) rfl ?_
  obtain ⟨b1_91, hL, hf⟩ := bd_e hf
  refine q_lv [(0, .ref (a 0)), (1, .int (0 : Int32))] [1, 0] rfl ?_
  refine wX8_oneMore_L91 C a w kn kp sd ks bo bi bk ri fm tt le wa hd sx b2_24  b1_91 ?_ 300 _ _ hL
  have hy0 := Option.some.inj hf
  clear hf
  obtain ⟨hz1, hy1⟩ := Prod.mk.inj hy0
  clear hy0
  subst hz1
  subst hy1
  exact hret _ _ dX8_oneMore_116

abbrev rmX8_leastNot : Room := { frames := 1, cells := 0, slots := 0, locals := 21 }
theorem hdX8_leastNot : yX8_leastNot.cls ≠ "java/lang/invoke/MethodHandle" ∧ yX8_leastNot.cls ≠ "java/lang/invoke/VarHandle" ∧ (parseMethodDescriptor yX8_leastNot.desc).map (fun d => d.parameters.length) = some 1 := by decide +kernel
def fX8_leastNot_L2 (v0 : Int32) : Nat → Int32 → Option (Int32)
  | 0, _ => none
  | n + 1, v1 =>
  if (8 : Int32) ≤ v1 then (
  some v1) else (
  (fX8_has v0 v1).bind fun x10 =>
  if x10 = 0 then (
  some v1) else (
  fX8_leastNot_L2 v0 n (v1 + 1)))
def fX8_leastNot  (v0 : Int32) : Option (Int32) :=
  (fX8_leastNot_L2 v0 300 (0 : Int32)).bind fun v1_2 =>
  some v1_2
set_option maxRecDepth 100000 in
set_option maxHeartbeats 4000000 in
theorem wX8_leastNot_L2 {p : Program} {l : Launch} {e : Env} {s : State} {m : MethodId} {args : Array Value} {below : List Frame} {meth : Method} {c : Code} {Q : State → Prop} {D : va_G} {A : Nat → Prop} {cI cJ cZ cN cM : ClassId} (C : Cx p s m args c cX8_leastNot 2 RX8 wsX8_leastNot D (TYL cI cJ cZ cN cM) A)   (v0 : Int32) (o1 : Int32) (kk : WW p l e rmX8_leastNot s m args below meth c Q D A 2 0 0 ([]) [(1, .int o1)] 22 []) : ∀ (n : Nat) (v1 : Int32), fX8_leastNot_L2 v0 n v1 = some o1 → WW p l e rmX8_leastNot s m args below meth c Q D A 2 0 0 ([]) [(0, .int v0), (1, .int v1)] 2 [] := by
  intro n
  induction n with
  | zero =>
    intro v1 hf
    rw [fX8_leastNot_L2] at hf
    cases hf
  | succ n ih =>
    intro v1 hf
    rw [fX8_leastNot_L2] at hf
    refine q_iload_n C 1 dX8_leastNot_2 rfl ?_
    refine q_bipush C 8 dX8_leastNot_3 (by decide) ?_
    refine q_icmp_ge C 22 dX8_leastNot_5 (by decide) hf (fun hf => ?_) (fun hf => ?_)
    · refine q_lv [(1, .int v1)] [1] rfl ?_
      have hz1 := Option.some.inj hf
      clear hf
      subst hz1
      exact kk
    · refine q_iload_n C 0 dX8_leastNot_8 rfl ?_
      refine q_iload_n C 1 dX8_leastNot_9 rfl ?_
      obtain ⟨x10, hM, hf⟩ := bd_e hf
      refine q_callSI C ([]) (kX8_has l D cI cJ cZ cN cM   v0 v1 x10 hM) (va_cwS 2 C.1.2.2.2.2 gX8_leastNot_X8_has rfl rfl rfl hdX8_has ⟨Nat.le_of_ble_eq_true rfl, Nat.le_of_ble_eq_true rfl⟩) FrX.none rfl rfl (Nat.le_of_ble_eq_true rfl) dX8_leastNot_10 ⟨Nat.zero_le _, Nat.zero_le _⟩ ?_
      refine q_if_eq C 22 dX8_leastNot_13 (by decide) hf (fun hf => ?_) (fun hf => ?_)
      · refine q_lv [(1, .int v1)] [1] rfl ?_
        have hz1 := Option.some.inj hf
        clear hf
        subst hz1
        exact kk
      · refine q_iinc C (v1 + 1) 1 [(1, .int (v1 + 1)), (0, .int v0)] dX8_leastNot_16 rfl rfl (by decide) rfl ?_
        refine q_goto C 2 dX8_leastNot_19 (by decide) ?_
        refine q_lv [(0, .int v0), (1, .int (v1 + 1))] [1, 0] rfl ?_
        exact ih _ hf
set_option maxRecDepth 100000 in
set_option maxHeartbeats 4000000 in
theorem kX8_leastNot (l : Launch) (D : va_G) (cI cJ cZ cN cM : ClassId)   (v0 : Int32) (r : Int32) (hf : fX8_leastNot v0 = some r) : MetI l yX8_leastNot wsX8_leastNot rmX8_leastNot D (TYL cI cJ cZ cN cM) [.int v0] ([]) ([]) r := by
  refine MetI.mk (cc := cX8_leastNot) (maxL := 2) (own := RX8) (ty := .int) [(0, .int v0)] (by decide +kernel) rfl rfl (Nat.le_of_ble_eq_true rfl) rfl ?_
  intro p e s m args below meth c A Q C hret
  unfold fX8_leastNot at hf
  refine q_iconst C 0 dX8_leastNot_0 (by decide) ?_
  refine q_istore_n C [(1, .int (0 : Int32)), (0, .int v0)] dX8_leastNot_1 (by decide) rfl ?_
  obtain ⟨v1_2, hL, hf⟩ := bd_e hf
  refine q_lv [(0, .int v0), (1, .int (0 : Int32))] [1, 0] rfl ?_
  refine wX8_leastNot_L2 C   v0 v1_2 ?_ 300 _ hL
  refine q_iload_n C 0 dX8_leastNot_22 rfl ?_
  have hz1 := Option.some.inj hf
  clear hf
  subst hz1
  exact hret _ _ dX8_leastNot_23 rfl

theorem lkX8_rows_1 : Cond.constantLong RX8 189 (-1000000002) ∈ wsX8_rows := List.mem_of_getElem? (i := 1) rfl
theorem lkX8_rows_2 : Cond.fieldLink RX8 41 "TwiceHeardModel" "by" "[J" ∈ wsX8_rows := List.mem_of_getElem? (i := 2) rfl
theorem inX8_rows_X8 : ∀ w ∈ wsX80, w ∈ wsX8_rows := fun w h => List.mem_cons_of_mem _ (List.mem_append_right _ h)
abbrev rmX8_rows : Room := { frames := 2, cells := 0, slots := 0, locals := 42 }
theorem hdX8_rows : yX8_rows.cls = RX8 ∧ yX8_rows.cls ≠ "java/lang/invoke/MethodHandle" ∧ yX8_rows.cls ≠ "java/lang/invoke/VarHandle" ∧ (parseMethodDescriptor yX8_rows.desc).map (fun d => d.parameters.length) = some 2 := by decide +kernel
def fX8_rows_L26  : Nat → Int32 → (Nat → Int64) → Option ((Nat → Int64))
  | 0, _, _ => none
  | n + 1, v3, b1 =>
  if (256 : Int32) ≤ v3 then (
  some b1) else (
  jn1 (fun (t0_47 : Int64) => 
  (wrL 256 b1 v3 t0_47).bind fun b1_47 =>
  fX8_rows_L26 n (v3 + 1) b1_47) fun k47 =>
  if v3 = 0 then (
  k47 (1 : Int64)) else (
  k47 (0 : Int64)))
def fX8_rows_L56 (v1 : Int32) : Nat → Int32 → (Nat → Int64) → (Nat → Int64) → Option ((Nat → Int64) × (Nat → Int64))
  | 0, _, _, _ => none
  | n + 1, v3, b1, b2 =>
  if v1 ≤ v3 then (
  some (b1, b2)) else (
  bd2 (fX8_oneMore b1 b2) fun b1_62 b2_62 =>
  fX8_rows_L56 v1 n (v3 + 1) b1_62 b2_62)
def fX8_rows_L76 (b1 : (Nat → Int64)) (v2 : Int32) : Nat → Int64 → Int32 → Option (Int64)
  | 0, _, _ => none
  | n + 1, v3, v5 =>
  if (256 : Int32) ≤ v5 then (
  some v3) else (
  (fX8_leastNot v5).bind fun x87 =>
  jn1 (fun (t0_105 : Int64) => 
  fX8_rows_L76 b1 v2 n (v3 + t0_105) (v5 + 1)) fun k105 =>
  if x87 = v2 then (
  (rdL 256 b1 v5).bind fun x100 =>
  k105 x100) else (
  k105 (0 : Int64)))
def fX8_rows (b1 : (Nat → Int64)) (b2 : (Nat → Int64)) (v1 : Int32) (v2 : Int32) : Option (Int64 × (Nat → Int64) × (Nat → Int64)) :=
  (fX8_in v1 (1 : Int32) (8 : Int32)).bind fun x4 =>
  jn0 (
  some ((-1000000002 : Int64), b1, b2)) fun k20 =>
  if x4 = 0 then (
  k20) else (
  (fX8_in v2 (0 : Int32) (8 : Int32)).bind fun x14 =>
  if x14 = 0 then (
  k20) else (
  (fX8_rows_L26  300 (0 : Int32) b1).bind fun b1_26 =>
  bd2 (fX8_rows_L56 v1 300 (0 : Int32) b1_26 b2) fun b1_56 b2_56 =>
  (fX8_rows_L76 b1_56 v2 300 (0 : Int64) (0 : Int32)).bind fun v3_76 =>
  some (v3_76, b1_56, b2_56)))
set_option maxRecDepth 100000 in
set_option maxHeartbeats 4000000 in
theorem wX8_rows_L26 {p : Program} {l : Launch} {e : Env} {s : State} {m : MethodId} {args : Array Value} {below : List Frame} {meth : Method} {c : Code} {Q : State → Prop} {D : va_G} {A : Nat → Prop} {cI cJ cZ cN cM : ClassId} (C : Cx p s m args c cX8_rows 6 RX8 wsX8_rows D (TYL cI cJ cZ cN cM) A) (a : Nat → Nat) (w : (Nat → Int32)) (kn : Int32) (kp : Int32) (sd : Int32) (ks : (Nat → Int32)) (bo : (Nat → Int32)) (bi : (Nat → Int32)) (bk : Int32) (ri : (Nat → Int32)) (fm : (Nat → Int32)) (tt : (Nat → Int32)) (le : Int32) (wa : (Nat → Int32)) (hd : (Nat → Int64)) (sx : (Nat → Int32)) (b2 : (Nat → Int64)) (v1 : Int32) (v2 : Int32) (b1_o : (Nat → Int64)) (kk : WW p l e rmX8_rows s m args below meth c Q D A 6 0 0 (mW cI cJ cZ cN cM a w kn kp sd ks bo bi bk ri fm tt le wa hd sx b1_o b2) [(0, .ref (a 0)), (1, .int v1), (2, .int v2)] 54 []) : ∀ (n : Nat) (v3 : Int32) (b1 : (Nat → Int64)), fX8_rows_L26  n v3 b1 = some b1_o → WW p l e rmX8_rows s m args below meth c Q D A 6 0 0 (mW cI cJ cZ cN cM a w kn kp sd ks bo bi bk ri fm tt le wa hd sx b1 b2) [(0, .ref (a 0)), (1, .int v1), (2, .int v2), (3, .int v3)] 26 [] := by
  intro n
  induction n with
  | zero =>
    intro v3 b1 hf
    rw [fX8_rows_L26] at hf
    cases hf
  | succ n ih =>
    intro v3 b1 hf
    rw [fX8_rows_L26] at hf
    refine q_iload_n C 3 dX8_rows_26 rfl ?_
    refine q_sipush C 256 dX8_rows_27 (by decide) ?_
    refine q_icmp_ge C 54 dX8_rows_30 (by decide) hf (fun hf => ?_) (fun hf => ?_)
    · refine q_lv [(0, .ref (a 0)), (1, .int v1), (2, .int v2)] [0, 1, 2] rfl ?_
      have hz1 := Option.some.inj hf
      clear hf
      subst hz1
      exact kk
    · refine q_aload_n C 0 dX8_rows_33 rfl ?_
      refine q_get C 0 15 dX8_rows_34 rfl rfl (Nat.le_of_ble_eq_true rfl) inX8_rows_X8 lkX8_rows_2 rfl rfl ?_
      refine q_iload_n C 3 dX8_rows_37 rfl ?_
      refine q_iload_n C 3 dX8_rows_38 rfl ?_
      refine jn1_e (fun (t0_47 : Int64) => WW p l e rmX8_rows s m args below meth c Q D A 6 0 0 (mW cI cJ cZ cN cM a w kn kp sd ks bo bi bk ri fm tt le wa hd sx b1 b2) [(0, .ref (a 0)), (1, .int v1), (2, .int v2), (3, .int v3)] 47 [.long t0_47, .int v3, .ref (a 11)]) hf ?_ ?_
      · intro t0_47 hf
        refine q_last C 11 1 (fun b1_47 => mW cI cJ cZ cN cM a w kn kp sd ks bo bi bk ri fm tt le wa hd sx b1_47 b2) dX8_rows_47 rfl rfl (fun _ => rfl) hf (fun b1_47 hf => ?_)
        refine q_iinc C (v3 + 1) 3 [(3, .int (v3 + 1)), (0, .ref (a 0)), (1, .int v1), (2, .int v2)] dX8_rows_48 rfl rfl (by decide) rfl ?_
        refine q_goto C 26 dX8_rows_51 (by decide) ?_
        refine q_lv [(0, .ref (a 0)), (1, .int v1), (2, .int v2), (3, .int (v3 + 1))] [1, 2, 3, 0] rfl ?_
        exact ih _ _ hf
      intro k47 J47 hf
      refine q_if_ne C 46 dX8_rows_39 (by decide) hf (fun hf => ?_) (fun hf => ?_)
      · refine q_lconst C 0 dX8_rows_46 (by decide) ?_
        exact J47 _ hf
      · refine q_lconst C 1 dX8_rows_42 (by decide) ?_
        refine q_goto C 47 dX8_rows_43 (by decide) ?_
        exact J47 _ hf
set_option maxRecDepth 100000 in
set_option maxHeartbeats 4000000 in
theorem wX8_rows_L56 {p : Program} {l : Launch} {e : Env} {s : State} {m : MethodId} {args : Array Value} {below : List Frame} {meth : Method} {c : Code} {Q : State → Prop} {D : va_G} {A : Nat → Prop} {cI cJ cZ cN cM : ClassId} (C : Cx p s m args c cX8_rows 6 RX8 wsX8_rows D (TYL cI cJ cZ cN cM) A) (a : Nat → Nat) (w : (Nat → Int32)) (kn : Int32) (kp : Int32) (sd : Int32) (ks : (Nat → Int32)) (bo : (Nat → Int32)) (bi : (Nat → Int32)) (bk : Int32) (ri : (Nat → Int32)) (fm : (Nat → Int32)) (tt : (Nat → Int32)) (le : Int32) (wa : (Nat → Int32)) (hd : (Nat → Int64)) (sx : (Nat → Int32)) (v1 : Int32) (v2 : Int32) (b1_o : (Nat → Int64)) (b2_o : (Nat → Int64)) (kk : WW p l e rmX8_rows s m args below meth c Q D A 6 0 0 (mW cI cJ cZ cN cM a w kn kp sd ks bo bi bk ri fm tt le wa hd sx b1_o b2_o) [(0, .ref (a 0)), (2, .int v2)] 71 []) : ∀ (n : Nat) (v3 : Int32) (b1 : (Nat → Int64)) (b2 : (Nat → Int64)), fX8_rows_L56 v1 n v3 b1 b2 = some (b1_o, b2_o) → WW p l e rmX8_rows s m args below meth c Q D A 6 0 0 (mW cI cJ cZ cN cM a w kn kp sd ks bo bi bk ri fm tt le wa hd sx b1 b2) [(0, .ref (a 0)), (1, .int v1), (2, .int v2), (3, .int v3)] 56 [] := by
  intro n
  induction n with
  | zero =>
    intro v3 b1 b2 hf
    rw [fX8_rows_L56] at hf
    cases hf
  | succ n ih =>
    intro v3 b1 b2 hf
    rw [fX8_rows_L56] at hf
    refine q_iload_n C 3 dX8_rows_56 rfl ?_
    refine q_iload_n C 1 dX8_rows_57 rfl ?_
    refine q_icmp_ge C 71 dX8_rows_58 (by decide) hf (fun hf => ?_) (fun hf => ?_)
    · refine q_lv [(0, .ref (a 0)), (2, .int v2)] [0, 2] rfl ?_
      have hy0 := Option.some.inj hf
      clear hf
      obtain ⟨hz1, hy1⟩ := Prod.mk.inj hy0
      clear hy0
      subst hz1
      subst hy1
      exact kk
    · refine q_aload_n C 0 dX8_rows_61 rfl ?_
      obtain ⟨b1_62, b2_62, hM, hf⟩ := bd2_e hf
      refine q_callVV C (mW cI cJ cZ cN cM a w kn kp sd ks bo bi bk ri fm tt le wa hd sx b1_62 b2_62) (kX8_oneMore l D cI cJ cZ cN cM a w kn kp sd ks bo bi bk ri fm tt le wa hd sx b1 b2  b1_62 b2_62 hM) (cwV 0 C.1.2.2.2.2 gX8_rows_X8_oneMore rfl rfl rfl hdX8_oneMore ⟨Nat.le_of_ble_eq_true rfl, Nat.le_of_ble_eq_true rfl⟩) 0 7 rfl rfl FrX.all rfl rfl (Nat.le_of_ble_eq_true rfl) dX8_rows_62 ⟨Nat.zero_le _, Nat.zero_le _⟩ ?_
      refine q_iinc C (v3 + 1) 3 [(3, .int (v3 + 1)), (0, .ref (a 0)), (1, .int v1), (2, .int v2)] dX8_rows_65 rfl rfl (by decide) rfl ?_
      refine q_goto C 56 dX8_rows_68 (by decide) ?_
      refine q_lv [(0, .ref (a 0)), (1, .int v1), (2, .int v2), (3, .int (v3 + 1))] [1, 2, 3, 0] rfl ?_
      exact ih _ _ _ hf
set_option maxRecDepth 100000 in
set_option maxHeartbeats 4000000 in
theorem wX8_rows_L76 {p : Program} {l : Launch} {e : Env} {s : State} {m : MethodId} {args : Array Value} {below : List Frame} {meth : Method} {c : Code} {Q : State → Prop} {D : va_G} {A : Nat → Prop} {cI cJ cZ cN cM : ClassId} (C : Cx p s m args c cX8_rows 6 RX8 wsX8_rows D (TYL cI cJ cZ cN cM) A) (a : Nat → Nat) (w : (Nat → Int32)) (kn : Int32) (kp : Int32) (sd : Int32) (ks : (Nat → Int32)) (bo : (Nat → Int32)) (bi : (Nat → Int32)) (bk : Int32) (ri : (Nat → Int32)) (fm : (Nat → Int32)) (tt : (Nat → Int32)) (le : Int32) (wa : (Nat → Int32)) (hd : (Nat → Int64)) (sx : (Nat → Int32)) (b1 : (Nat → Int64)) (b2 : (Nat → Int64)) (v2 : Int32) (o3 : Int64) (kk : WW p l e rmX8_rows s m args below meth c Q D A 6 0 0 (mW cI cJ cZ cN cM a w kn kp sd ks bo bi bk ri fm tt le wa hd sx b1 b2) [(3, .long o3)] 113 []) : ∀ (n : Nat) (v3 : Int64) (v5 : Int32), fX8_rows_L76 b1 v2 n v3 v5 = some o3 → WW p l e rmX8_rows s m args below meth c Q D A 6 0 0 (mW cI cJ cZ cN cM a w kn kp sd ks bo bi bk ri fm tt le wa hd sx b1 b2) [(0, .ref (a 0)), (2, .int v2), (3, .long v3), (5, .int v5)] 76 [] := by
  intro n
  induction n with
  | zero =>
    intro v3 v5 hf
    rw [fX8_rows_L76] at hf
    cases hf
  | succ n ih =>
    intro v3 v5 hf
    rw [fX8_rows_L76] at hf
    refine q_iload C 3 dX8_rows_76 rfl ?_
    refine q_sipush C 256 dX8_rows_78 (by decide) ?_
    refine q_icmp_ge C 113 dX8_rows_81 (by decide) hf (fun hf => ?_) (fun hf => ?_)
    · refine q_lv [(3, .long v3)] [2] rfl ?_
      have hz1 := Option.some.inj hf
      clear hf
      subst hz1
      exact kk
    · refine q_lload_n C 2 dX8_rows_84 rfl ?_
      refine q_iload C 3 dX8_rows_85 rfl ?_
      obtain ⟨x87, hM, hf⟩ := bd_e hf
      refine q_callSI C (mW cI cJ cZ cN cM a w kn kp sd ks bo bi bk ri fm tt le wa hd sx b1 b2) (kX8_leastNot l D cI cJ cZ cN cM   v5 x87 hM) (va_cwS 1 C.1.2.2.2.2 gX8_rows_X8_leastNot rfl rfl rfl hdX8_leastNot ⟨Nat.le_of_ble_eq_true rfl, Nat.le_of_ble_eq_true rfl⟩) FrX.none rfl rfl (Nat.le_of_ble_eq_true rfl) dX8_rows_87 ⟨Nat.zero_le _, Nat.zero_le _⟩ ?_
      refine q_iload_n C 1 dX8_rows_90 rfl ?_
      refine jn1_e (fun (t0_105 : Int64) => WW p l e rmX8_rows s m args below meth c Q D A 6 0 0 (mW cI cJ cZ cN cM a w kn kp sd ks bo bi bk ri fm tt le wa hd sx b1 b2) [(0, .ref (a 0)), (2, .int v2), (5, .int v5)] 105 [.long t0_105, .long v3]) hf ?_ ?_
      · intro t0_105 hf
        refine q_ladd C dX8_rows_105 ?_
        refine q_lstore_n C [(3, .long (v3 + t0_105)), (0, .ref (a 0)), (2, .int v2), (5, .int v5)] dX8_rows_106 (by decide) rfl ?_
        refine q_iinc C (v5 + 1) 3 [(5, .int (v5 + 1)), (3, .long (v3 + t0_105)), (0, .ref (a 0)), (2, .int v2)] dX8_rows_107 rfl rfl (by decide) rfl ?_
        refine q_goto C 76 dX8_rows_110 (by decide) ?_
        refine q_lv [(0, .ref (a 0)), (2, .int v2), (3, .long (v3 + t0_105)), (5, .int (v5 + 1))] [2, 3, 1, 0] rfl ?_
        exact ih _ _ hf
      intro k105 J105 hf
      refine q_icmp_ne C 104 dX8_rows_91 (by decide) hf (fun hf => ?_) (fun hf => ?_)
      · refine q_lconst C 0 dX8_rows_104 (by decide) ?_
        refine q_lv [(0, .ref (a 0)), (2, .int v2), (5, .int v5)] [0, 1, 3] rfl ?_
        exact J105 _ hf
      · refine q_aload_n C 0 dX8_rows_94 rfl ?_
        refine q_get C 0 15 dX8_rows_95 rfl rfl (Nat.le_of_ble_eq_true rfl) inX8_rows_X8 lkX8_rows_2 rfl rfl ?_
        refine q_iload C 3 dX8_rows_98 rfl ?_
        refine q_lald C 11 1 dX8_rows_100 rfl rfl hf (fun x100 hf => ?_)
        refine q_goto C 105 dX8_rows_101 (by decide) ?_
        refine q_lv [(0, .ref (a 0)), (2, .int v2), (5, .int v5)] [0, 1, 3] rfl ?_
        exact J105 _ hf
set_option maxRecDepth 100000 in
set_option maxHeartbeats 4000000 in
theorem kX8_rows (l : Launch) (D : va_G) (cI cJ cZ cN cM : ClassId) (a : Nat → Nat) (w : (Nat → Int32)) (kn : Int32) (kp : Int32) (sd : Int32) (ks : (Nat → Int32)) (bo : (Nat → Int32)) (bi : (Nat → Int32)) (bk : Int32) (ri : (Nat → Int32)) (fm : (Nat → Int32)) (tt : (Nat → Int32)) (le : Int32) (wa : (Nat → Int32)) (hd : (Nat → Int64)) (sx : (Nat → Int32)) (b1 : (Nat → Int64)) (b2 : (Nat → Int64)) (v1 : Int32) (v2 : Int32) (r : Int64) (b1_o : (Nat → Int64)) (b2_o : (Nat → Int64)) (hf : fX8_rows b1 b2 v1 v2 = some (r, b1_o, b2_o)) : MetL l yX8_rows wsX8_rows rmX8_rows D (TYL cI cJ cZ cN cM) [.ref (a 0), .int v1, .int v2] (mW cI cJ cZ cN cM a w kn kp sd ks bo bi bk ri fm tt le wa hd sx b1 b2) (mW cI cJ cZ cN cM a w kn kp sd ks bo bi bk ri fm tt le wa hd sx b1_o b2_o) r := by
  refine MetL.mk (cc := cX8_rows) (maxL := 6) (own := RX8) [(0, .ref (a 0)), (1, .int v1), (2, .int v2)] (by decide +kernel) rfl rfl (Nat.le_of_ble_eq_true rfl) rfl ?_
  intro p e s m args below meth c A Q C hret
  unfold fX8_rows at hf
  refine q_iload_n C 1 dX8_rows_0 rfl ?_
  refine q_iconst C 1 dX8_rows_1 (by decide) ?_
  refine q_bipush C 8 dX8_rows_2 (by decide) ?_
  obtain ⟨x4, hM, hf⟩ := bd_e hf
  refine q_callSI C (mW cI cJ cZ cN cM a w kn kp sd ks bo bi bk ri fm tt le wa hd sx b1 b2) (kX8_in l D cI cJ cZ cN cM   v1 (1 : Int32) (8 : Int32) x4 hM) (va_cwS 3 C.1.2.2.2.2 gX8_rows_X8_in rfl rfl rfl hdX8_in ⟨Nat.le_of_ble_eq_true rfl, Nat.le_of_ble_eq_true rfl⟩) FrX.none rfl rfl (Nat.le_of_ble_eq_true rfl) dX8_rows_4 ⟨Nat.zero_le _, Nat.zero_le _⟩ ?_
  refine jn0_e (WW p l e rmX8_rows s m args below meth c Q D A 6 0 0 (mW cI cJ cZ cN cM a w kn kp sd ks bo bi bk ri fm tt le wa hd sx b1 b2) [] 20 []) hf ?_ ?_
  · intro hf
    refine q_ldc2 C dX8_rows_20 lkX8_rows_1 ?_
    have hy0 := Option.some.inj hf
    clear hf
    obtain ⟨hz1, hy1⟩ := Prod.mk.inj hy0
    clear hy0
    obtain ⟨hz2, hy2⟩ := Prod.mk.inj hy1
    clear hy1
    subst hz1
    subst hz2
    subst hy2
    exact hret _ _ dX8_rows_23
  intro k20 J20 hf
  refine q_if_eq C 20 dX8_rows_7 (by decide) hf (fun hf => ?_) (fun hf => ?_)
  · refine q_lv [] [] rfl ?_
    exact J20  hf
  · refine q_iload_n C 2 dX8_rows_10 rfl ?_
    refine q_iconst C 0 dX8_rows_11 (by decide) ?_
    refine q_bipush C 8 dX8_rows_12 (by decide) ?_
    obtain ⟨x14, hM, hf⟩ := bd_e hf
    refine q_callSI C (mW cI cJ cZ cN cM a w kn kp sd ks bo bi bk ri fm tt le wa hd sx b1 b2) (kX8_in l D cI cJ cZ cN cM   v2 (0 : Int32) (8 : Int32) x14 hM) (va_cwS 3 C.1.2.2.2.2 gX8_rows_X8_in rfl rfl rfl hdX8_in ⟨Nat.le_of_ble_eq_true rfl, Nat.le_of_ble_eq_true rfl⟩) FrX.none rfl rfl (Nat.le_of_ble_eq_true rfl) dX8_rows_14 ⟨Nat.zero_le _, Nat.zero_le _⟩ ?_
    refine q_if_ne C 24 dX8_rows_17 (by decide) hf (fun hf => ?_) (fun hf => ?_)
    · refine q_iconst C 0 dX8_rows_24 (by decide) ?_
      refine q_istore_n C [(3, .int (0 : Int32)), (0, .ref (a 0)), (1, .int v1), (2, .int v2)] dX8_rows_25 (by decide) rfl ?_
      obtain ⟨b1_26, hL, hf⟩ := bd_e hf
      refine q_lv [(0, .ref (a 0)), (1, .int v1), (2, .int v2), (3, .int (0 : Int32))] [1, 2, 3, 0] rfl ?_
      refine wX8_rows_L26 C a w kn kp sd ks bo bi bk ri fm tt le wa hd sx b2 v1 v2 b1_26 ?_ 300 _ _ hL
      refine q_iconst C 0 dX8_rows_54 (by decide) ?_
      refine q_istore_n C [(3, .int (0 : Int32)), (0, .ref (a 0)), (1, .int v1), (2, .int v2)] dX8_rows_55 (by decide) rfl ?_
      obtain ⟨b1_56, b2_56, hL, hf⟩ := bd2_e hf
      refine q_lv [(0, .ref (a 0)), (1, .int v1), (2, .int v2), (3, .int (0 : Int32))] [1, 2, 3, 0] rfl ?_
      refine wX8_rows_L56 C a w kn kp sd ks bo bi bk ri fm tt le wa hd sx v1 v2 b1_56 b2_56 ?_ 300 _ _ _ hL
      refine q_lconst C 0 dX8_rows_71 (by decide) ?_
      refine q_lstore_n C [(3, .long (0 : Int64)), (0, .ref (a 0)), (2, .int v2)] dX8_rows_72 (by decide) rfl ?_
      refine q_iconst C 0 dX8_rows_73 (by decide) ?_
      refine q_istore C [(5, .int (0 : Int32)), (3, .long (0 : Int64)), (0, .ref (a 0)), (2, .int v2)] dX8_rows_74 (by decide) rfl ?_
      obtain ⟨v3_76, hL, hf⟩ := bd_e hf
      refine q_lv [(0, .ref (a 0)), (2, .int v2), (3, .long (0 : Int64)), (5, .int (0 : Int32))] [2, 3, 1, 0] rfl ?_
      refine wX8_rows_L76 C a w kn kp sd ks bo bi bk ri fm tt le wa hd sx b1_56 b2_56 v2 v3_76 ?_ 300 _ _ hL
      refine q_lload_n C 0 dX8_rows_113 rfl ?_
      have hy0 := Option.some.inj hf
      clear hf
      obtain ⟨hz1, hy1⟩ := Prod.mk.inj hy0
      clear hy0
      obtain ⟨hz2, hy2⟩ := Prod.mk.inj hy1
      clear hy1
      subst hz1
      subst hz2
      subst hy2
      exact hret _ _ dX8_rows_114
    · refine q_lv [] [] rfl ?_
      exact J20  hf
