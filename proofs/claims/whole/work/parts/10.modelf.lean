theorem lkX8_mode_1 : Cond.constant RX8 179 (-1000000002) ∈ wsX8_mode := List.mem_of_getElem? (i := 1) rfl
theorem inX8_mode_X8 : ∀ w ∈ wsX80, w ∈ wsX8_mode := fun w h => List.mem_cons_of_mem _ (List.mem_append_right _ h)
abbrev rmX8_mode : Room := { frames := 3, cells := 0, slots := 0, locals := 67 }
theorem hdX8_mode : yX8_mode.cls = RX8 ∧ yX8_mode.cls ≠ "java/lang/invoke/MethodHandle" ∧ yX8_mode.cls ≠ "java/lang/invoke/VarHandle" ∧ (parseMethodDescriptor yX8_mode.desc).map (fun d => d.parameters.length) = some 1 := by decide +kernel
def fX8_mode (w : (Nat → Int32)) (kn : Int32) (v1 : Int32) : Option (Int32 × (Nat → Int32) × Int32) :=
  (fX8_in v1 (0 : Int32) (1 : Int32)).bind fun x3 =>
  if x3 = 0 then (
  some ((-1000000002 : Int32), w, kn)) else (
  bd3 (fX8_put w kn (2 : Int32) v1) fun x12 w_12 kn_12 =>
  some (x12, w_12, kn_12))
set_option maxRecDepth 100000 in
set_option maxHeartbeats 4000000 in
theorem kX8_mode (l : Launch) (D : va_G) (cI cJ cZ cN cM : ClassId) (a : Nat → Nat) (w : (Nat → Int32)) (kn : Int32) (kp : Int32) (sd : Int32) (ks : (Nat → Int32)) (bo : (Nat → Int32)) (bi : (Nat → Int32)) (bk : Int32) (ri : (Nat → Int32)) (fm : (Nat → Int32)) (tt : (Nat → Int32)) (le : Int32) (wa : (Nat → Int32)) (hd : (Nat → Int64)) (sx : (Nat → Int32)) (b1 : (Nat → Int64)) (b2 : (Nat → Int64)) (v1 : Int32) (r : Int32) (w_o : (Nat → Int32)) (kn_o : Int32) (hf : fX8_mode w kn v1 = some (r, w_o, kn_o)) : MetI l yX8_mode wsX8_mode rmX8_mode D (TYL cI cJ cZ cN cM) [.ref (a 0), .int v1] (mW cI cJ cZ cN cM a w kn kp sd ks bo bi bk ri fm tt le wa hd sx b1 b2) (mW cI cJ cZ cN cM a w_o kn_o kp sd ks bo bi bk ri fm tt le wa hd sx b1 b2) r := by
  refine MetI.mk (cc := cX8_mode) (maxL := 2) (own := RX8) (ty := .int) [(0, .ref (a 0)), (1, .int v1)] (by decide +kernel) rfl rfl (Nat.le_of_ble_eq_true rfl) rfl ?_
  intro p e s m args below meth c A Q C hret
  unfold fX8_mode at hf
  refine q_iload_n C 1 dX8_mode_0 rfl ?_
  refine q_iconst C 0 dX8_mode_1 (by decide) ?_
  refine q_iconst C 1 dX8_mode_2 (by decide) ?_
  obtain ⟨x3, hM, hf⟩ := bd_e hf
  refine q_callSI C (mW cI cJ cZ cN cM a w kn kp sd ks bo bi bk ri fm tt le wa hd sx b1 b2) (kX8_in l D cI cJ cZ cN cM   v1 (0 : Int32) (1 : Int32) x3 hM) (va_cwS 3 C.1.2.2.2.2 gX8_mode_X8_in rfl rfl rfl hdX8_in ⟨Nat.le_of_ble_eq_true rfl, Nat.le_of_ble_eq_true rfl⟩) FrX.none rfl rfl (Nat.le_of_ble_eq_true rfl) dX8_mode_3 ⟨Nat.zero_le _, Nat.zero_le _⟩ ?_
  refine q_if_eq C 18 dX8_mode_6 (by decide) hf (fun hf => ?_) (fun hf => ?_)
  · refine q_ldc C dX8_mode_18 lkX8_mode_1 ?_
    have hy0 := Option.some.inj hf
    clear hf
    obtain ⟨hz1, hy1⟩ := Prod.mk.inj hy0
    clear hy0
    obtain ⟨hz2, hy2⟩ := Prod.mk.inj hy1
    clear hy1
    subst hz1
    subst hz2
    subst hy2
    exact hret _ _ dX8_mode_20 rfl
  · refine q_aload_n C 0 dX8_mode_9 rfl ?_
    refine q_iconst C 2 dX8_mode_10 (by decide) ?_
    refine q_iload_n C 1 dX8_mode_11 rfl ?_
    obtain ⟨x12, w_12, kn_12, hM, hf⟩ := bd3_e hf
    refine q_callVI C (mW cI cJ cZ cN cM a w_12 kn_12 kp sd ks bo bi bk ri fm tt le wa hd sx b1 b2) (kX8_put l D cI cJ cZ cN cM a w kn kp sd ks bo bi bk ri fm tt le wa hd sx b1 b2 (2 : Int32) v1 x12 w_12 kn_12 hM) (cwV 2 C.1.2.2.2.2 gX8_mode_X8_put rfl rfl rfl hdX8_put ⟨Nat.le_of_ble_eq_true rfl, Nat.le_of_ble_eq_true rfl⟩) 0 7 rfl rfl FrX.all rfl rfl (Nat.le_of_ble_eq_true rfl) dX8_mode_12 ⟨Nat.zero_le _, Nat.zero_le _⟩ ?_
    refine q_goto C 20 dX8_mode_15 (by decide) ?_
    have hy0 := Option.some.inj hf
    clear hf
    obtain ⟨hz1, hy1⟩ := Prod.mk.inj hy0
    clear hy0
    obtain ⟨hz2, hy2⟩ := Prod.mk.inj hy1
    clear hy1
    subst hz1
    subst hz2
    subst hy2
    exact hret _ _ dX8_mode_20 rfl

theorem lkX8_draw_1 : Cond.fieldLink RX8 176 "TwiceHeardModel" "seed" "I" ∈ wsX8_draw := List.mem_of_getElem? (i := 1) rfl
theorem lkX8_draw_2 : Cond.constantLong RX8 221 (1103515245) ∈ wsX8_draw := List.mem_of_getElem? (i := 2) rfl
theorem lkX8_draw_3 : Cond.constantLong RX8 223 (12345) ∈ wsX8_draw := List.mem_of_getElem? (i := 3) rfl
theorem lkX8_draw_4 : Cond.constantLong RX8 225 (2147483648) ∈ wsX8_draw := List.mem_of_getElem? (i := 4) rfl
theorem lkX8_draw_5 : Cond.constant RX8 227 (65536) ∈ wsX8_draw := List.mem_of_getElem? (i := 5) rfl
theorem inX8_draw_X8 : ∀ w ∈ wsX80, w ∈ wsX8_draw := fun w h => List.mem_cons_of_mem _ (List.mem_append_right _ h)
abbrev rmX8_draw : Room := { frames := 0, cells := 0, slots := 0, locals := 0 }
theorem hdX8_draw : yX8_draw.cls = RX8 ∧ yX8_draw.cls ≠ "java/lang/invoke/MethodHandle" ∧ yX8_draw.cls ≠ "java/lang/invoke/VarHandle" ∧ (parseMethodDescriptor yX8_draw.desc).map (fun d => d.parameters.length) = some 1 := by decide +kernel
def fX8_draw (sd : Int32) (v1 : Int32) : Option (Int32 × Int32) :=
  (rmI (((((sd.toInt64 * (1103515245 : Int64)) + (12345 : Int64)) - ((sd.toInt64 * (1103515245 : Int64)) + (12345 : Int64)) / (2147483648 : Int64) * (2147483648 : Int64)).toInt32) / (65536 : Int32)) v1).bind fun x32 =>
  some (x32, (((sd.toInt64 * (1103515245 : Int64)) + (12345 : Int64)) - ((sd.toInt64 * (1103515245 : Int64)) + (12345 : Int64)) / (2147483648 : Int64) * (2147483648 : Int64)).toInt32)
set_option maxRecDepth 100000 in
set_option maxHeartbeats 4000000 in
theorem kX8_draw (l : Launch) (D : va_G) (cI cJ cZ cN cM : ClassId) (a : Nat → Nat) (w : (Nat → Int32)) (kn : Int32) (kp : Int32) (sd : Int32) (ks : (Nat → Int32)) (bo : (Nat → Int32)) (bi : (Nat → Int32)) (bk : Int32) (ri : (Nat → Int32)) (fm : (Nat → Int32)) (tt : (Nat → Int32)) (le : Int32) (wa : (Nat → Int32)) (hd : (Nat → Int64)) (sx : (Nat → Int32)) (b1 : (Nat → Int64)) (b2 : (Nat → Int64)) (v1 : Int32) (r : Int32) (sd_o : Int32) (hf : fX8_draw sd v1 = some (r, sd_o)) : MetI l yX8_draw wsX8_draw rmX8_draw D (TYL cI cJ cZ cN cM) [.ref (a 0), .int v1] (mW cI cJ cZ cN cM a w kn kp sd ks bo bi bk ri fm tt le wa hd sx b1 b2) (mW cI cJ cZ cN cM a w kn kp sd_o ks bo bi bk ri fm tt le wa hd sx b1 b2) r := by
  refine MetI.mk (cc := cX8_draw) (maxL := 4) (own := RX8) (ty := .int) [(0, .ref (a 0)), (1, .int v1)] (by decide +kernel) rfl rfl (Nat.le_of_ble_eq_true rfl) rfl ?_
  intro p e s m args below meth c A Q C hret
  unfold fX8_draw at hf
  refine q_aload_n C 0 dX8_draw_0 rfl ?_
  refine q_get C 0 3 dX8_draw_1 rfl rfl (Nat.le_of_ble_eq_true rfl) inX8_draw_X8 lkX8_draw_1 rfl rfl ?_
  refine q_i2l C dX8_draw_4 ?_
  refine q_ldc2 C dX8_draw_5 lkX8_draw_2 ?_
  refine q_lmul C dX8_draw_8 ?_
  refine q_ldc2 C dX8_draw_9 lkX8_draw_3 ?_
  refine q_ladd C dX8_draw_12 ?_
  refine q_ldc2 C dX8_draw_13 lkX8_draw_4 ?_
  refine q_lremC C dX8_draw_16 (by decide) ?_
  refine q_lstore_n C [(2, .long (((sd.toInt64 * (1103515245 : Int64)) + (12345 : Int64)) - ((sd.toInt64 * (1103515245 : Int64)) + (12345 : Int64)) / (2147483648 : Int64) * (2147483648 : Int64))), (0, .ref (a 0)), (1, .int v1)] dX8_draw_17 (by decide) rfl ?_
  refine q_aload_n C 1 dX8_draw_18 rfl ?_
  refine q_lload_n C 0 dX8_draw_19 rfl ?_
  refine q_l2i C dX8_draw_20 ?_
  refine q_put C 0 3 (mW cI cJ cZ cN cM a w kn kp ((((sd.toInt64 * (1103515245 : Int64)) + (12345 : Int64)) - ((sd.toInt64 * (1103515245 : Int64)) + (12345 : Int64)) / (2147483648 : Int64) * (2147483648 : Int64)).toInt32) ks bo bi bk ri fm tt le wa hd sx b1 b2) dX8_draw_21 rfl rfl (Nat.le_of_ble_eq_true rfl) inX8_draw_X8 tyX8 tyX8_ok nmX8 lkX8_draw_1 rfl rfl rfl rfl (Nat.le_of_ble_eq_true rfl) rfl ?_
  refine q_aload_n C 1 dX8_draw_24 rfl ?_
  refine q_get C 0 3 dX8_draw_25 rfl rfl (Nat.le_of_ble_eq_true rfl) inX8_draw_X8 lkX8_draw_1 rfl rfl ?_
  refine q_ldc C dX8_draw_28 lkX8_draw_5 ?_
  refine q_idivC C dX8_draw_30 (by decide) ?_
  refine q_iload_n C 2 dX8_draw_31 rfl ?_
  refine q_irem C dX8_draw_32 hf (fun x32 hf => ?_)
  have hy0 := Option.some.inj hf
  clear hf
  obtain ⟨hz1, hy1⟩ := Prod.mk.inj hy0
  clear hy0
  subst hz1
  subst hy1
  exact hret _ _ dX8_draw_33 rfl

theorem lkX8_drift_1 : Cond.constant RX8 179 (-1000000002) ∈ wsX8_drift := List.mem_of_getElem? (i := 1) rfl
theorem lkX8_drift_2 : Cond.fieldLink RX8 9 "TwiceHeardModel" "w" "[I" ∈ wsX8_drift := List.mem_of_getElem? (i := 2) rfl
theorem inX8_drift_X8 : ∀ w ∈ wsX80, w ∈ wsX8_drift := fun w h => List.mem_cons_of_mem _ (List.mem_append_right _ h)
abbrev rmX8_drift : Room := { frames := 4, cells := 0, slots := 0, locals := 88 }
theorem hdX8_drift : yX8_drift.cls = RX8 ∧ yX8_drift.cls ≠ "java/lang/invoke/MethodHandle" ∧ yX8_drift.cls ≠ "java/lang/invoke/VarHandle" ∧ (parseMethodDescriptor yX8_drift.desc).map (fun d => d.parameters.length) = some 1 := by decide +kernel
def fX8_drift_L15 (v1 : Int32) : Nat → Int32 → (Nat → Int32) → Int32 → Int32 → Option ((Nat → Int32) × Int32 × Int32)
  | 0, _, _, _, _ => none
  | n + 1, v2, w, kn, sd =>
  if v1 ≤ v2 then (
  some (w, kn, sd)) else (
  bd2 (fX8_remember w kn) fun w_21 kn_21 =>
  bd2 (fX8_draw sd (w_21 0)) fun x31 sd_31 =>
  bd2 (fX8_draw sd_31 (16 : Int32)) fun x38 sd_38 =>
  (rdI 570 w_21 ((21 : Int32) + x31)).bind fun x52 =>
  (wrI 570 w_21 ((21 : Int32) + x31) (x52 ^^^ ((1 : Int32) <<< (x38 &&& 31)))).bind fun w_58 =>
  fX8_drift_L15 v1 n (v2 + 1) w_58 kn_21 sd_38)
def fX8_drift (w : (Nat → Int32)) (kn : Int32) (sd : Int32) (ri : (Nat → Int32)) (v1 : Int32) : Option (Int32 × (Nat → Int32) × Int32 × Int32 × (Nat → Int32)) :=
  (fX8_in v1 (1 : Int32) (12 : Int32)).bind fun x4 =>
  if x4 = 0 then (
  some ((-1000000002 : Int32), w, kn, sd, ri)) else (
  bd3 (fX8_drift_L15 v1 300 (0 : Int32) w kn sd) fun w_15 kn_15 sd_15 =>
  bd2 (fX8_truth w_15 ri) fun x66 ri_66 =>
  some (x66, w_15, kn_15, sd_15, ri_66))
set_option maxRecDepth 100000 in
set_option maxHeartbeats 4000000 in
theorem wX8_drift_L15 {p : Program} {l : Launch} {e : Env} {s : State} {m : MethodId} {args : Array Value} {below : List Frame} {meth : Method} {c : Code} {Q : State → Prop} {D : va_G} {A : Nat → Prop} {cI cJ cZ cN cM : ClassId} (C : Cx p s m args c cX8_drift 5 RX8 wsX8_drift D (TYL cI cJ cZ cN cM) A) (a : Nat → Nat) (kp : Int32) (ks : (Nat → Int32)) (bo : (Nat → Int32)) (bi : (Nat → Int32)) (bk : Int32) (ri : (Nat → Int32)) (fm : (Nat → Int32)) (tt : (Nat → Int32)) (le : Int32) (wa : (Nat → Int32)) (hd : (Nat → Int64)) (sx : (Nat → Int32)) (b1 : (Nat → Int64)) (b2 : (Nat → Int64)) (v1 : Int32) (w_o : (Nat → Int32)) (kn_o : Int32) (sd_o : Int32) (kk : WW p l e rmX8_drift s m args below meth c Q D A 5 0 0 (mW cI cJ cZ cN cM a w_o kn_o kp sd_o ks bo bi bk ri fm tt le wa hd sx b1 b2) [(0, .ref (a 0))] 65 []) : ∀ (n : Nat) (v2 : Int32) (w : (Nat → Int32)) (kn : Int32) (sd : Int32), fX8_drift_L15 v1 n v2 w kn sd = some (w_o, kn_o, sd_o) → WW p l e rmX8_drift s m args below meth c Q D A 5 0 0 (mW cI cJ cZ cN cM a w kn kp sd ks bo bi bk ri fm tt le wa hd sx b1 b2) [(0, .ref (a 0)), (1, .int v1), (2, .int v2)] 15 [] := by
  intro n
  induction n with
  | zero =>
    intro v2 w kn sd hf
    rw [fX8_drift_L15] at hf
    cases hf
  | succ n ih =>
    intro v2 w kn sd hf
    rw [fX8_drift_L15] at hf
    refine q_iload_n C 2 dX8_drift_15 rfl ?_
    refine q_iload_n C 1 dX8_drift_16 rfl ?_
    refine q_icmp_ge C 65 dX8_drift_17 (by decide) hf (fun hf => ?_) (fun hf => ?_)
    · refine q_lv [(0, .ref (a 0))] [0] rfl ?_
      have hy0 := Option.some.inj hf
      clear hf
      obtain ⟨hz1, hy1⟩ := Prod.mk.inj hy0
      clear hy0
      obtain ⟨hz2, hy2⟩ := Prod.mk.inj hy1
      clear hy1
      subst hz1
      subst hz2
      subst hy2
      exact kk
    · refine q_aload_n C 0 dX8_drift_20 rfl ?_
      obtain ⟨w_21, kn_21, hM, hf⟩ := bd2_e hf
      refine q_callVV C (mW cI cJ cZ cN cM a w_21 kn_21 kp sd ks bo bi bk ri fm tt le wa hd sx b1 b2) (kX8_remember l D cI cJ cZ cN cM a w kn kp sd ks bo bi bk ri fm tt le wa hd sx b1 b2  w_21 kn_21 hM) (cwV 0 C.1.2.2.2.2 gX8_drift_X8_remember rfl rfl rfl hdX8_remember ⟨Nat.le_of_ble_eq_true rfl, Nat.le_of_ble_eq_true rfl⟩) 0 7 rfl rfl FrX.all rfl rfl (Nat.le_of_ble_eq_true rfl) dX8_drift_21 ⟨Nat.zero_le _, Nat.zero_le _⟩ ?_
      refine q_aload_n C 0 dX8_drift_24 rfl ?_
      refine q_aload_n C 0 dX8_drift_25 rfl ?_
      refine q_get C 0 0 dX8_drift_26 rfl rfl (Nat.le_of_ble_eq_true rfl) inX8_drift_X8 lkX8_drift_2 rfl rfl ?_
      refine q_iconst C 0 dX8_drift_29 (by decide) ?_
      refine q_ialdC C 1 0 dX8_drift_30 rfl rfl (by unfold vp_in; decide) (x := (w_21 0)) rfl ?_
      obtain ⟨x31, sd_31, hM, hf⟩ := bd2_e hf
      refine q_callVI C (mW cI cJ cZ cN cM a w_21 kn_21 kp sd_31 ks bo bi bk ri fm tt le wa hd sx b1 b2) (kX8_draw l D cI cJ cZ cN cM a w_21 kn_21 kp sd ks bo bi bk ri fm tt le wa hd sx b1 b2 (w_21 0) x31 sd_31 hM) (cwV 1 C.1.2.2.2.2 gX8_drift_X8_draw rfl rfl rfl hdX8_draw ⟨Nat.le_of_ble_eq_true rfl, Nat.le_of_ble_eq_true rfl⟩) 0 7 rfl rfl FrX.all rfl rfl (Nat.le_of_ble_eq_true rfl) dX8_drift_31 ⟨Nat.zero_le _, Nat.zero_le _⟩ ?_
      refine q_istore_n C [(3, .int x31), (0, .ref (a 0)), (1, .int v1), (2, .int v2)] dX8_drift_34 (by decide) rfl ?_
      refine q_aload_n C 1 dX8_drift_35 rfl ?_
      refine q_bipush C 16 dX8_drift_36 (by decide) ?_
      obtain ⟨x38, sd_38, hM, hf⟩ := bd2_e hf
      refine q_callVI C (mW cI cJ cZ cN cM a w_21 kn_21 kp sd_38 ks bo bi bk ri fm tt le wa hd sx b1 b2) (kX8_draw l D cI cJ cZ cN cM a w_21 kn_21 kp sd_31 ks bo bi bk ri fm tt le wa hd sx b1 b2 (16 : Int32) x38 sd_38 hM) (cwV 1 C.1.2.2.2.2 gX8_drift_X8_draw rfl rfl rfl hdX8_draw ⟨Nat.le_of_ble_eq_true rfl, Nat.le_of_ble_eq_true rfl⟩) 0 7 rfl rfl FrX.all rfl rfl (Nat.le_of_ble_eq_true rfl) dX8_drift_38 ⟨Nat.zero_le _, Nat.zero_le _⟩ ?_
      refine q_istore C [(4, .int x38), (3, .int x31), (0, .ref (a 0)), (1, .int v1), (2, .int v2)] dX8_drift_41 (by decide) rfl ?_
      refine q_aload_n C 2 dX8_drift_43 rfl ?_
      refine q_get C 0 0 dX8_drift_44 rfl rfl (Nat.le_of_ble_eq_true rfl) inX8_drift_X8 lkX8_drift_2 rfl rfl ?_
      refine q_bipush C 21 dX8_drift_47 (by decide) ?_
      refine q_iload_n C 1 dX8_drift_49 rfl ?_
      refine q_iadd C dX8_drift_50 ?_
      refine q_dup2 C dX8_drift_51 rfl rfl ?_
      refine q_iald C 1 0 dX8_drift_52 rfl rfl hf (fun x52 hf => ?_)
      refine q_iconst C 1 dX8_drift_53 (by decide) ?_
      refine q_iload C 0 dX8_drift_54 rfl ?_
      refine q_ishl C dX8_drift_56 ?_
      refine q_ixor C dX8_drift_57 ?_
      refine q_iast C 1 0 (fun w_58 => mW cI cJ cZ cN cM a w_58 kn_21 kp sd_38 ks bo bi bk ri fm tt le wa hd sx b1 b2) dX8_drift_58 rfl rfl (fun _ => rfl) hf (fun w_58 hf => ?_)
      refine q_iinc C (v2 + 1) 4 [(2, .int (v2 + 1)), (4, .int x38), (3, .int x31), (0, .ref (a 0)), (1, .int v1)] dX8_drift_59 rfl rfl (by decide) rfl ?_
      refine q_goto C 15 dX8_drift_62 (by decide) ?_
      refine q_lv [(0, .ref (a 0)), (1, .int v1), (2, .int (v2 + 1))] [3, 4, 0] rfl ?_
      exact ih _ _ _ _ hf
set_option maxRecDepth 100000 in
set_option maxHeartbeats 4000000 in
theorem kX8_drift (l : Launch) (D : va_G) (cI cJ cZ cN cM : ClassId) (a : Nat → Nat) (w : (Nat → Int32)) (kn : Int32) (kp : Int32) (sd : Int32) (ks : (Nat → Int32)) (bo : (Nat → Int32)) (bi : (Nat → Int32)) (bk : Int32) (ri : (Nat → Int32)) (fm : (Nat → Int32)) (tt : (Nat → Int32)) (le : Int32) (wa : (Nat → Int32)) (hd : (Nat → Int64)) (sx : (Nat → Int32)) (b1 : (Nat → Int64)) (b2 : (Nat → Int64)) (v1 : Int32) (r : Int32) (w_o : (Nat → Int32)) (kn_o : Int32) (sd_o : Int32) (ri_o : (Nat → Int32)) (hf : fX8_drift w kn sd ri v1 = some (r, w_o, kn_o, sd_o, ri_o)) : MetI l yX8_drift wsX8_drift rmX8_drift D (TYL cI cJ cZ cN cM) [.ref (a 0), .int v1] (mW cI cJ cZ cN cM a w kn kp sd ks bo bi bk ri fm tt le wa hd sx b1 b2) (mW cI cJ cZ cN cM a w_o kn_o kp sd_o ks bo bi bk ri_o fm tt le wa hd sx b1 b2) r := by
  refine MetI.mk (cc := cX8_drift) (maxL := 5) (own := RX8) (ty := .int) [(0, .ref (a 0)), (1, .int v1)] (by decide +kernel) rfl rfl (Nat.le_of_ble_eq_true rfl) rfl ?_
  intro p e s m args below meth c A Q C hret
  unfold fX8_drift at hf
  refine q_iload_n C 1 dX8_drift_0 rfl ?_
  refine q_iconst C 1 dX8_drift_1 (by decide) ?_
  refine q_bipush C 12 dX8_drift_2 (by decide) ?_
  obtain ⟨x4, hM, hf⟩ := bd_e hf
  refine q_callSI C (mW cI cJ cZ cN cM a w kn kp sd ks bo bi bk ri fm tt le wa hd sx b1 b2) (kX8_in l D cI cJ cZ cN cM   v1 (1 : Int32) (12 : Int32) x4 hM) (va_cwS 3 C.1.2.2.2.2 gX8_drift_X8_in rfl rfl rfl hdX8_in ⟨Nat.le_of_ble_eq_true rfl, Nat.le_of_ble_eq_true rfl⟩) FrX.none rfl rfl (Nat.le_of_ble_eq_true rfl) dX8_drift_4 ⟨Nat.zero_le _, Nat.zero_le _⟩ ?_
  refine q_if_ne C 13 dX8_drift_7 (by decide) hf (fun hf => ?_) (fun hf => ?_)
  · refine q_iconst C 0 dX8_drift_13 (by decide) ?_
    refine q_istore_n C [(2, .int (0 : Int32)), (0, .ref (a 0)), (1, .int v1)] dX8_drift_14 (by decide) rfl ?_
    obtain ⟨w_15, kn_15, sd_15, hL, hf⟩ := bd3_e hf
    refine q_lv [(0, .ref (a 0)), (1, .int v1), (2, .int (0 : Int32))] [1, 2, 0] rfl ?_
    refine wX8_drift_L15 C a kp ks bo bi bk ri fm tt le wa hd sx b1 b2 v1 w_15 kn_15 sd_15 ?_ 300 _ _ _ _ hL
    refine q_aload_n C 0 dX8_drift_65 rfl ?_
    obtain ⟨x66, ri_66, hM, hf⟩ := bd2_e hf
    refine q_callVI C (mW cI cJ cZ cN cM a w_15 kn_15 kp sd_15 ks bo bi bk ri_66 fm tt le wa hd sx b1 b2) (kX8_truth l D cI cJ cZ cN cM a w_15 kn_15 kp sd_15 ks bo bi bk ri fm tt le wa hd sx b1 b2  x66 ri_66 hM) (cwV 0 C.1.2.2.2.2 gX8_drift_X8_truth rfl rfl rfl hdX8_truth ⟨Nat.le_of_ble_eq_true rfl, Nat.le_of_ble_eq_true rfl⟩) 0 7 rfl rfl FrX.all rfl rfl (Nat.le_of_ble_eq_true rfl) dX8_drift_66 ⟨Nat.zero_le _, Nat.zero_le _⟩ ?_
    have hy0 := Option.some.inj hf
    clear hf
    obtain ⟨hz1, hy1⟩ := Prod.mk.inj hy0
    clear hy0
    obtain ⟨hz2, hy2⟩ := Prod.mk.inj hy1
    clear hy1
    obtain ⟨hz3, hy3⟩ := Prod.mk.inj hy2
    clear hy2
    obtain ⟨hz4, hy4⟩ := Prod.mk.inj hy3
    clear hy3
    subst hz1
    subst hz2
    subst hz3
    subst hz4
    subst hy4
    exact hret _ _ dX8_drift_69 rfl
  · refine q_ldc C dX8_drift_10 lkX8_drift_1 ?_
    have hy0 := Option.some.inj hf
    clear hf
    obtain ⟨hz1, hy1⟩ := Prod.mk.inj hy0
    clear hy0
    obtain ⟨hz2, hy2⟩ := Prod.mk.inj hy1
    clear hy1
    obtain ⟨hz3, hy3⟩ := Prod.mk.inj hy2
    clear hy2
    obtain ⟨hz4, hy4⟩ := Prod.mk.inj hy3
    clear hy3
    subst hz1
    subst hz2
    subst hz3
    subst hz4
    subst hy4
    exact hret _ _ dX8_drift_12 rfl

theorem lkX8_undo_1 : Cond.constant RX8 179 (-1000000002) ∈ wsX8_undo := List.mem_of_getElem? (i := 1) rfl
theorem lkX8_undo_2 : Cond.fieldLink RX8 173 "TwiceHeardModel" "known" "I" ∈ wsX8_undo := List.mem_of_getElem? (i := 2) rfl
theorem lkX8_undo_3 : Cond.constant RX8 216 (-1000000003) ∈ wsX8_undo := List.mem_of_getElem? (i := 3) rfl
theorem inX8_undo_X8 : ∀ w ∈ wsX80, w ∈ wsX8_undo := fun w h => List.mem_cons_of_mem _ (List.mem_append_right _ h)
abbrev rmX8_undo : Room := { frames := 1, cells := 0, slots := 0, locals := 23 }
theorem hdX8_undo : yX8_undo.cls = RX8 ∧ yX8_undo.cls ≠ "java/lang/invoke/MethodHandle" ∧ yX8_undo.cls ≠ "java/lang/invoke/VarHandle" ∧ (parseMethodDescriptor yX8_undo.desc).map (fun d => d.parameters.length) = some 1 := by decide +kernel
def fX8_undo (w : (Nat → Int32)) (kn : Int32) (v1 : Int32) : Option (Int32 × (Nat → Int32) × Int32) :=
  (fX8_in v1 (1 : Int32) (16 : Int32)).bind fun x4 =>
  if x4 = 0 then (
  some ((-1000000002 : Int32), w, kn)) else (
  if v1 ≤ kn then (
  (fX8_copyRow w ((30 : Int32) * ((kn - v1) + (1 : Int32))) (0 : Int32)).bind fun w_45 =>
  some ((kn - v1), w_45, (kn - v1))) else (
  some ((-1000000003 : Int32), w, kn)))
set_option maxRecDepth 100000 in
set_option maxHeartbeats 4000000 in
theorem kX8_undo (l : Launch) (D : va_G) (cI cJ cZ cN cM : ClassId) (a : Nat → Nat) (w : (Nat → Int32)) (kn : Int32) (kp : Int32) (sd : Int32) (ks : (Nat → Int32)) (bo : (Nat → Int32)) (bi : (Nat → Int32)) (bk : Int32) (ri : (Nat → Int32)) (fm : (Nat → Int32)) (tt : (Nat → Int32)) (le : Int32) (wa : (Nat → Int32)) (hd : (Nat → Int64)) (sx : (Nat → Int32)) (b1 : (Nat → Int64)) (b2 : (Nat → Int64)) (v1 : Int32) (r : Int32) (w_o : (Nat → Int32)) (kn_o : Int32) (hf : fX8_undo w kn v1 = some (r, w_o, kn_o)) : MetI l yX8_undo wsX8_undo rmX8_undo D (TYL cI cJ cZ cN cM) [.ref (a 0), .int v1] (mW cI cJ cZ cN cM a w kn kp sd ks bo bi bk ri fm tt le wa hd sx b1 b2) (mW cI cJ cZ cN cM a w_o kn_o kp sd ks bo bi bk ri fm tt le wa hd sx b1 b2) r := by
  refine MetI.mk (cc := cX8_undo) (maxL := 2) (own := RX8) (ty := .int) [(0, .ref (a 0)), (1, .int v1)] (by decide +kernel) rfl rfl (Nat.le_of_ble_eq_true rfl) rfl ?_
  intro p e s m args below meth c A Q C hret
  unfold fX8_undo at hf
  refine q_iload_n C 1 dX8_undo_0 rfl ?_
  refine q_iconst C 1 dX8_undo_1 (by decide) ?_
  refine q_bipush C 16 dX8_undo_2 (by decide) ?_
  obtain ⟨x4, hM, hf⟩ := bd_e hf
  refine q_callSI C (mW cI cJ cZ cN cM a w kn kp sd ks bo bi bk ri fm tt le wa hd sx b1 b2) (kX8_in l D cI cJ cZ cN cM   v1 (1 : Int32) (16 : Int32) x4 hM) (va_cwS 3 C.1.2.2.2.2 gX8_undo_X8_in rfl rfl rfl hdX8_in ⟨Nat.le_of_ble_eq_true rfl, Nat.le_of_ble_eq_true rfl⟩) FrX.none rfl rfl (Nat.le_of_ble_eq_true rfl) dX8_undo_4 ⟨Nat.zero_le _, Nat.zero_le _⟩ ?_
  refine q_if_ne C 13 dX8_undo_7 (by decide) hf (fun hf => ?_) (fun hf => ?_)
  · refine q_iload_n C 1 dX8_undo_13 rfl ?_
    refine q_aload_n C 0 dX8_undo_14 rfl ?_
    refine q_get C 0 1 dX8_undo_15 rfl rfl (Nat.le_of_ble_eq_true rfl) inX8_undo_X8 lkX8_undo_2 rfl rfl ?_
    refine q_icmp_le C 24 dX8_undo_18 (by decide) hf (fun hf => ?_) (fun hf => ?_)
    · refine q_aload_n C 0 dX8_undo_24 rfl ?_
      refine q_dup C dX8_undo_25 rfl ?_
      refine q_get C 0 1 dX8_undo_26 rfl rfl (Nat.le_of_ble_eq_true rfl) inX8_undo_X8 lkX8_undo_2 rfl rfl ?_
      refine q_iload_n C 1 dX8_undo_29 rfl ?_
      refine q_isub C dX8_undo_30 ?_
      refine q_put C 0 1 (mW cI cJ cZ cN cM a w (kn - v1) kp sd ks bo bi bk ri fm tt le wa hd sx b1 b2) dX8_undo_31 rfl rfl (Nat.le_of_ble_eq_true rfl) inX8_undo_X8 tyX8 tyX8_ok nmX8 lkX8_undo_2 rfl rfl rfl rfl (Nat.le_of_ble_eq_true rfl) rfl ?_
      refine q_aload_n C 0 dX8_undo_34 rfl ?_
      refine q_bipush C 30 dX8_undo_35 (by decide) ?_
      refine q_aload_n C 0 dX8_undo_37 rfl ?_
      refine q_get C 0 1 dX8_undo_38 rfl rfl (Nat.le_of_ble_eq_true rfl) inX8_undo_X8 lkX8_undo_2 rfl rfl ?_
      refine q_iconst C 1 dX8_undo_41 (by decide) ?_
      refine q_iadd C dX8_undo_42 ?_
      refine q_imul C dX8_undo_43 ?_
      refine q_iconst C 0 dX8_undo_44 (by decide) ?_
      obtain ⟨w_45, hM, hf⟩ := bd_e hf
      refine q_callVV C (mW cI cJ cZ cN cM a w_45 (kn - v1) kp sd ks bo bi bk ri fm tt le wa hd sx b1 b2) (kX8_copyRow l D cI cJ cZ cN cM a w (kn - v1) kp sd ks bo bi bk ri fm tt le wa hd sx b1 b2 ((30 : Int32) * ((kn - v1) + (1 : Int32))) (0 : Int32) w_45 hM) (cwV 2 C.1.2.2.2.2 gX8_undo_X8_copyRow rfl rfl rfl hdX8_copyRow ⟨Nat.le_of_ble_eq_true rfl, Nat.le_of_ble_eq_true rfl⟩) 0 7 rfl rfl FrX.all rfl rfl (Nat.le_of_ble_eq_true rfl) dX8_undo_45 ⟨Nat.zero_le _, Nat.zero_le _⟩ ?_
      refine q_aload_n C 0 dX8_undo_48 rfl ?_
      refine q_get C 0 1 dX8_undo_49 rfl rfl (Nat.le_of_ble_eq_true rfl) inX8_undo_X8 lkX8_undo_2 rfl rfl ?_
      have hy0 := Option.some.inj hf
      clear hf
      obtain ⟨hz1, hy1⟩ := Prod.mk.inj hy0
      clear hy0
      obtain ⟨hz2, hy2⟩ := Prod.mk.inj hy1
      clear hy1
      subst hz1
      subst hz2
      subst hy2
      exact hret _ _ dX8_undo_52 rfl
    · refine q_ldc C dX8_undo_21 lkX8_undo_3 ?_
      have hy0 := Option.some.inj hf
      clear hf
      obtain ⟨hz1, hy1⟩ := Prod.mk.inj hy0
      clear hy0
      obtain ⟨hz2, hy2⟩ := Prod.mk.inj hy1
      clear hy1
      subst hz1
      subst hz2
      subst hy2
      exact hret _ _ dX8_undo_23 rfl
  · refine q_ldc C dX8_undo_10 lkX8_undo_1 ?_
    have hy0 := Option.some.inj hf
    clear hf
    obtain ⟨hz1, hy1⟩ := Prod.mk.inj hy0
    clear hy0
    obtain ⟨hz2, hy2⟩ := Prod.mk.inj hy1
    clear hy1
    subst hz1
    subst hz2
    subst hy2
    exact hret _ _ dX8_undo_12 rfl

theorem lkX8_write_1 : Cond.constant RX8 180 (-1000000001) ∈ wsX8_write := List.mem_of_getElem? (i := 1) rfl
theorem lkX8_write_2 : Cond.fieldLink RX8 143 "TwiceHeardModel" "booked" "I" ∈ wsX8_write := List.mem_of_getElem? (i := 2) rfl
theorem lkX8_write_3 : Cond.constant RX8 211 (-1000000004) ∈ wsX8_write := List.mem_of_getElem? (i := 3) rfl
theorem lkX8_write_4 : Cond.fieldLink RX8 16 "TwiceHeardModel" "bookOf" "[I" ∈ wsX8_write := List.mem_of_getElem? (i := 4) rfl
theorem lkX8_write_5 : Cond.fieldLink RX8 19 "TwiceHeardModel" "bookIs" "[I" ∈ wsX8_write := List.mem_of_getElem? (i := 5) rfl
theorem inX8_write_X8 : ∀ w ∈ wsX80, w ∈ wsX8_write := fun w h => List.mem_cons_of_mem _ (List.mem_append_right _ h)
abbrev rmX8_write : Room := { frames := 2, cells := 0, slots := 0, locals := 43 }
theorem hdX8_write : yX8_write.cls = RX8 ∧ yX8_write.cls ≠ "java/lang/invoke/MethodHandle" ∧ yX8_write.cls ≠ "java/lang/invoke/VarHandle" ∧ (parseMethodDescriptor yX8_write.desc).map (fun d => d.parameters.length) = some 2 := by decide +kernel
def fX8_write (w : (Nat → Int32)) (bo : (Nat → Int32)) (bi : (Nat → Int32)) (bk : Int32) (v1 : Int32) (v2 : Int32) : Option (Int32 × (Nat → Int32) × (Nat → Int32) × Int32) :=
  (fX8_isNode w v1).bind fun x2 =>
  if x2 = 0 then (
  some ((-1000000001 : Int32), bo, bi, bk)) else (
  if bk = (20 : Int32) then (
  some ((-1000000004 : Int32), bo, bi, bk)) else (
  (wrI 20 bo bk v1).bind fun bo_32 =>
  (wrI 20 bi bk v2).bind fun bi_42 =>
  some ((bk + (1 : Int32)), bo_32, bi_42, (bk + (1 : Int32)))))
set_option maxRecDepth 100000 in
set_option maxHeartbeats 4000000 in
theorem kX8_write (l : Launch) (D : va_G) (cI cJ cZ cN cM : ClassId) (a : Nat → Nat) (w : (Nat → Int32)) (kn : Int32) (kp : Int32) (sd : Int32) (ks : (Nat → Int32)) (bo : (Nat → Int32)) (bi : (Nat → Int32)) (bk : Int32) (ri : (Nat → Int32)) (fm : (Nat → Int32)) (tt : (Nat → Int32)) (le : Int32) (wa : (Nat → Int32)) (hd : (Nat → Int64)) (sx : (Nat → Int32)) (b1 : (Nat → Int64)) (b2 : (Nat → Int64)) (v1 : Int32) (v2 : Int32) (r : Int32) (bo_o : (Nat → Int32)) (bi_o : (Nat → Int32)) (bk_o : Int32) (hf : fX8_write w bo bi bk v1 v2 = some (r, bo_o, bi_o, bk_o)) : MetI l yX8_write wsX8_write rmX8_write D (TYL cI cJ cZ cN cM) [.ref (a 0), .int v1, .int v2] (mW cI cJ cZ cN cM a w kn kp sd ks bo bi bk ri fm tt le wa hd sx b1 b2) (mW cI cJ cZ cN cM a w kn kp sd ks bo_o bi_o bk_o ri fm tt le wa hd sx b1 b2) r := by
  refine MetI.mk (cc := cX8_write) (maxL := 3) (own := RX8) (ty := .int) [(0, .ref (a 0)), (1, .int v1), (2, .int v2)] (by decide +kernel) rfl rfl (Nat.le_of_ble_eq_true rfl) rfl ?_
  intro p e s m args below meth c A Q C hret
  unfold fX8_write at hf
  refine q_aload_n C 0 dX8_write_0 rfl ?_
  refine q_iload_n C 1 dX8_write_1 rfl ?_
  obtain ⟨x2, hM, hf⟩ := bd_e hf
  refine q_callVI C (mW cI cJ cZ cN cM a w kn kp sd ks bo bi bk ri fm tt le wa hd sx b1 b2) (kX8_isNode l D cI cJ cZ cN cM a w kn kp sd ks bo bi bk ri fm tt le wa hd sx b1 b2 v1 x2 hM) (cwV 1 C.1.2.2.2.2 gX8_write_X8_isNode rfl rfl rfl hdX8_isNode ⟨Nat.le_of_ble_eq_true rfl, Nat.le_of_ble_eq_true rfl⟩) 0 7 rfl rfl FrX.all rfl rfl (Nat.le_of_ble_eq_true rfl) dX8_write_2 ⟨Nat.zero_le _, Nat.zero_le _⟩ ?_
  refine q_if_ne C 11 dX8_write_5 (by decide) hf (fun hf => ?_) (fun hf => ?_)
  · refine q_aload_n C 0 dX8_write_11 rfl ?_
    refine q_get C 0 7 dX8_write_12 rfl rfl (Nat.le_of_ble_eq_true rfl) inX8_write_X8 lkX8_write_2 rfl rfl ?_
    refine q_bipush C 20 dX8_write_15 (by decide) ?_
    refine q_icmp_ne C 23 dX8_write_17 (by decide) hf (fun hf => ?_) (fun hf => ?_)
    · refine q_aload_n C 0 dX8_write_23 rfl ?_
      refine q_get C 0 5 dX8_write_24 rfl rfl (Nat.le_of_ble_eq_true rfl) inX8_write_X8 lkX8_write_4 rfl rfl ?_
      refine q_aload_n C 0 dX8_write_27 rfl ?_
      refine q_get C 0 7 dX8_write_28 rfl rfl (Nat.le_of_ble_eq_true rfl) inX8_write_X8 lkX8_write_2 rfl rfl ?_
      refine q_iload_n C 1 dX8_write_31 rfl ?_
      refine q_iast C 3 0 (fun bo_32 => mW cI cJ cZ cN cM a w kn kp sd ks bo_32 bi bk ri fm tt le wa hd sx b1 b2) dX8_write_32 rfl rfl (fun _ => rfl) hf (fun bo_32 hf => ?_)
      refine q_aload_n C 0 dX8_write_33 rfl ?_
      refine q_get C 0 6 dX8_write_34 rfl rfl (Nat.le_of_ble_eq_true rfl) inX8_write_X8 lkX8_write_5 rfl rfl ?_
      refine q_aload_n C 0 dX8_write_37 rfl ?_
      refine q_get C 0 7 dX8_write_38 rfl rfl (Nat.le_of_ble_eq_true rfl) inX8_write_X8 lkX8_write_2 rfl rfl ?_
      refine q_iload_n C 2 dX8_write_41 rfl ?_
      refine q_iast C 4 0 (fun bi_42 => mW cI cJ cZ cN cM a w kn kp sd ks bo_32 bi_42 bk ri fm tt le wa hd sx b1 b2) dX8_write_42 rfl rfl (fun _ => rfl) hf (fun bi_42 hf => ?_)
      refine q_aload_n C 0 dX8_write_43 rfl ?_
      refine q_dup C dX8_write_44 rfl ?_
      refine q_get C 0 7 dX8_write_45 rfl rfl (Nat.le_of_ble_eq_true rfl) inX8_write_X8 lkX8_write_2 rfl rfl ?_
      refine q_iconst C 1 dX8_write_48 (by decide) ?_
      refine q_iadd C dX8_write_49 ?_
      refine q_put C 0 7 (mW cI cJ cZ cN cM a w kn kp sd ks bo_32 bi_42 (bk + (1 : Int32)) ri fm tt le wa hd sx b1 b2) dX8_write_50 rfl rfl (Nat.le_of_ble_eq_true rfl) inX8_write_X8 tyX8 tyX8_ok nmX8 lkX8_write_2 rfl rfl rfl rfl (Nat.le_of_ble_eq_true rfl) rfl ?_
      refine q_aload_n C 0 dX8_write_53 rfl ?_
      refine q_get C 0 7 dX8_write_54 rfl rfl (Nat.le_of_ble_eq_true rfl) inX8_write_X8 lkX8_write_2 rfl rfl ?_
      have hy0 := Option.some.inj hf
      clear hf
      obtain ⟨hz1, hy1⟩ := Prod.mk.inj hy0
      clear hy0
      obtain ⟨hz2, hy2⟩ := Prod.mk.inj hy1
      clear hy1
      obtain ⟨hz3, hy3⟩ := Prod.mk.inj hy2
      clear hy2
      subst hz1
      subst hz2
      subst hz3
      subst hy3
      exact hret _ _ dX8_write_57 rfl
    · refine q_ldc C dX8_write_20 lkX8_write_3 ?_
      have hy0 := Option.some.inj hf
      clear hf
      obtain ⟨hz1, hy1⟩ := Prod.mk.inj hy0
      clear hy0
      obtain ⟨hz2, hy2⟩ := Prod.mk.inj hy1
      clear hy1
      obtain ⟨hz3, hy3⟩ := Prod.mk.inj hy2
      clear hy2
      subst hz1
      subst hz2
      subst hz3
      subst hy3
      exact hret _ _ dX8_write_22 rfl
  · refine q_ldc C dX8_write_8 lkX8_write_1 ?_
    have hy0 := Option.some.inj hf
    clear hf
    obtain ⟨hz1, hy1⟩ := Prod.mk.inj hy0
    clear hy0
    obtain ⟨hz2, hy2⟩ := Prod.mk.inj hy1
    clear hy1
    obtain ⟨hz3, hy3⟩ := Prod.mk.inj hy2
    clear hy2
    subst hz1
    subst hz2
    subst hz3
    subst hy3
    exact hret _ _ dX8_write_10 rfl

theorem lkX8_tear_1 : Cond.fieldLink RX8 143 "TwiceHeardModel" "booked" "I" ∈ wsX8_tear := List.mem_of_getElem? (i := 1) rfl
theorem inX8_tear_X8 : ∀ w ∈ wsX80, w ∈ wsX8_tear := fun w h => List.mem_cons_of_mem _ (List.mem_append_right _ h)
abbrev rmX8_tear : Room := { frames := 0, cells := 0, slots := 0, locals := 0 }
theorem hdX8_tear : yX8_tear.cls = RX8 ∧ yX8_tear.cls ≠ "java/lang/invoke/MethodHandle" ∧ yX8_tear.cls ≠ "java/lang/invoke/VarHandle" ∧ (parseMethodDescriptor yX8_tear.desc).map (fun d => d.parameters.length) = some 0 := by decide +kernel
def fX8_tear (bk : Int32)  : Option (Int32 × Int32) :=
  some (bk, (0 : Int32))
set_option maxRecDepth 100000 in
set_option maxHeartbeats 4000000 in
theorem kX8_tear (l : Launch) (D : va_G) (cI cJ cZ cN cM : ClassId) (a : Nat → Nat) (w : (Nat → Int32)) (kn : Int32) (kp : Int32) (sd : Int32) (ks : (Nat → Int32)) (bo : (Nat → Int32)) (bi : (Nat → Int32)) (bk : Int32) (ri : (Nat → Int32)) (fm : (Nat → Int32)) (tt : (Nat → Int32)) (le : Int32) (wa : (Nat → Int32)) (hd : (Nat → Int64)) (sx : (Nat → Int32)) (b1 : (Nat → Int64)) (b2 : (Nat → Int64))  (r : Int32) (bk_o : Int32) (hf : fX8_tear bk = some (r, bk_o)) : MetI l yX8_tear wsX8_tear rmX8_tear D (TYL cI cJ cZ cN cM) [.ref (a 0)] (mW cI cJ cZ cN cM a w kn kp sd ks bo bi bk ri fm tt le wa hd sx b1 b2) (mW cI cJ cZ cN cM a w kn kp sd ks bo bi bk_o ri fm tt le wa hd sx b1 b2) r := by
  refine MetI.mk (cc := cX8_tear) (maxL := 2) (own := RX8) (ty := .int) [(0, .ref (a 0))] (by decide +kernel) rfl rfl (Nat.le_of_ble_eq_true rfl) rfl ?_
  intro p e s m args below meth c A Q C hret
  unfold fX8_tear at hf
  refine q_aload_n C 0 dX8_tear_0 rfl ?_
  refine q_get C 0 7 dX8_tear_1 rfl rfl (Nat.le_of_ble_eq_true rfl) inX8_tear_X8 lkX8_tear_1 rfl rfl ?_
  refine q_istore_n C [(1, .int bk), (0, .ref (a 0))] dX8_tear_4 (by decide) rfl ?_
  refine q_aload_n C 1 dX8_tear_5 rfl ?_
  refine q_iconst C 0 dX8_tear_6 (by decide) ?_
  refine q_put C 0 7 (mW cI cJ cZ cN cM a w kn kp sd ks bo bi (0 : Int32) ri fm tt le wa hd sx b1 b2) dX8_tear_7 rfl rfl (Nat.le_of_ble_eq_true rfl) inX8_tear_X8 tyX8 tyX8_ok nmX8 lkX8_tear_1 rfl rfl rfl rfl (Nat.le_of_ble_eq_true rfl) rfl ?_
  refine q_iload_n C 0 dX8_tear_10 rfl ?_
  have hy0 := Option.some.inj hf
  clear hf
  obtain ⟨hz1, hy1⟩ := Prod.mk.inj hy0
  clear hy0
  subst hz1
  subst hy1
  exact hret _ _ dX8_tear_11 rfl

theorem lkX8_seed_1 : Cond.constant RX8 179 (-1000000002) ∈ wsX8_seed := List.mem_of_getElem? (i := 1) rfl
theorem lkX8_seed_2 : Cond.fieldLink RX8 176 "TwiceHeardModel" "seed" "I" ∈ wsX8_seed := List.mem_of_getElem? (i := 2) rfl
theorem inX8_seed_X8 : ∀ w ∈ wsX80, w ∈ wsX8_seed := fun w h => List.mem_cons_of_mem _ (List.mem_append_right _ h)
abbrev rmX8_seed : Room := { frames := 0, cells := 0, slots := 0, locals := 0 }
theorem hdX8_seed : yX8_seed.cls = RX8 ∧ yX8_seed.cls ≠ "java/lang/invoke/MethodHandle" ∧ yX8_seed.cls ≠ "java/lang/invoke/VarHandle" ∧ (parseMethodDescriptor yX8_seed.desc).map (fun d => d.parameters.length) = some 1 := by decide +kernel
def fX8_seed (sd : Int32) (v1 : Int32) : Option (Int32 × Int32) :=
  if 0 ≤ v1 then (
  some (sd, v1)) else (
  some ((-1000000002 : Int32), sd))
set_option maxRecDepth 100000 in
set_option maxHeartbeats 4000000 in
theorem kX8_seed (l : Launch) (D : va_G) (cI cJ cZ cN cM : ClassId) (a : Nat → Nat) (w : (Nat → Int32)) (kn : Int32) (kp : Int32) (sd : Int32) (ks : (Nat → Int32)) (bo : (Nat → Int32)) (bi : (Nat → Int32)) (bk : Int32) (ri : (Nat → Int32)) (fm : (Nat → Int32)) (tt : (Nat → Int32)) (le : Int32) (wa : (Nat → Int32)) (hd : (Nat → Int64)) (sx : (Nat → Int32)) (b1 : (Nat → Int64)) (b2 : (Nat → Int64)) (v1 : Int32) (r : Int32) (sd_o : Int32) (hf : fX8_seed sd v1 = some (r, sd_o)) : MetI l yX8_seed wsX8_seed rmX8_seed D (TYL cI cJ cZ cN cM) [.ref (a 0), .int v1] (mW cI cJ cZ cN cM a w kn kp sd ks bo bi bk ri fm tt le wa hd sx b1 b2) (mW cI cJ cZ cN cM a w kn kp sd_o ks bo bi bk ri fm tt le wa hd sx b1 b2) r := by
  refine MetI.mk (cc := cX8_seed) (maxL := 3) (own := RX8) (ty := .int) [(0, .ref (a 0)), (1, .int v1)] (by decide +kernel) rfl rfl (Nat.le_of_ble_eq_true rfl) rfl ?_
  intro p e s m args below meth c A Q C hret
  unfold fX8_seed at hf
  refine q_iload_n C 1 dX8_seed_0 rfl ?_
  refine q_if_ge C 7 dX8_seed_1 (by decide) hf (fun hf => ?_) (fun hf => ?_)
  · refine q_aload_n C 0 dX8_seed_7 rfl ?_
    refine q_get C 0 3 dX8_seed_8 rfl rfl (Nat.le_of_ble_eq_true rfl) inX8_seed_X8 lkX8_seed_2 rfl rfl ?_
    refine q_istore_n C [(2, .int sd), (0, .ref (a 0)), (1, .int v1)] dX8_seed_11 (by decide) rfl ?_
    refine q_aload_n C 1 dX8_seed_12 rfl ?_
    refine q_iload_n C 2 dX8_seed_13 rfl ?_
    refine q_put C 0 3 (mW cI cJ cZ cN cM a w kn kp v1 ks bo bi bk ri fm tt le wa hd sx b1 b2) dX8_seed_14 rfl rfl (Nat.le_of_ble_eq_true rfl) inX8_seed_X8 tyX8 tyX8_ok nmX8 lkX8_seed_2 rfl rfl rfl rfl (Nat.le_of_ble_eq_true rfl) rfl ?_
    refine q_iload_n C 0 dX8_seed_17 rfl ?_
    have hy0 := Option.some.inj hf
    clear hf
    obtain ⟨hz1, hy1⟩ := Prod.mk.inj hy0
    clear hy0
    subst hz1
    subst hy1
    exact hret _ _ dX8_seed_18 rfl
  · refine q_ldc C dX8_seed_4 lkX8_seed_1 ?_
    have hy0 := Option.some.inj hf
    clear hf
    obtain ⟨hz1, hy1⟩ := Prod.mk.inj hy0
    clear hy0
    subst hz1
    subst hy1
    exact hret _ _ dX8_seed_6 rfl

theorem lkX8_keep_1 : Cond.constant RX8 180 (-1000000001) ∈ wsX8_keep := List.mem_of_getElem? (i := 1) rfl
theorem lkX8_keep_2 : Cond.fieldLink RX8 13 "TwiceHeardModel" "keptSeed" "[I" ∈ wsX8_keep := List.mem_of_getElem? (i := 2) rfl
theorem lkX8_keep_3 : Cond.fieldLink RX8 176 "TwiceHeardModel" "seed" "I" ∈ wsX8_keep := List.mem_of_getElem? (i := 3) rfl
theorem lkX8_keep_4 : Cond.fieldLink RX8 231 "TwiceHeardModel" "kept" "I" ∈ wsX8_keep := List.mem_of_getElem? (i := 4) rfl
theorem lkX8_keep_5 : Cond.fieldLink RX8 173 "TwiceHeardModel" "known" "I" ∈ wsX8_keep := List.mem_of_getElem? (i := 5) rfl
theorem inX8_keep_X8 : ∀ w ∈ wsX80, w ∈ wsX8_keep := fun w h => List.mem_cons_of_mem _ (List.mem_append_right _ h)
abbrev rmX8_keep : Room := { frames := 1, cells := 0, slots := 0, locals := 23 }
theorem hdX8_keep : yX8_keep.cls = RX8 ∧ yX8_keep.cls ≠ "java/lang/invoke/MethodHandle" ∧ yX8_keep.cls ≠ "java/lang/invoke/VarHandle" ∧ (parseMethodDescriptor yX8_keep.desc).map (fun d => d.parameters.length) = some 1 := by decide +kernel
def fX8_keep (w : (Nat → Int32)) (kn : Int32) (kp : Int32) (sd : Int32) (ks : (Nat → Int32)) (v1 : Int32) : Option (Int32 × (Nat → Int32) × Int32 × Int32 × (Nat → Int32)) :=
  (fX8_in v1 (0 : Int32) (1 : Int32)).bind fun x3 =>
  if x3 = 0 then (
  some ((-1000000001 : Int32), w, kn, kp, ks)) else (
  (fX8_copyRow w (0 : Int32) ((510 : Int32) + ((30 : Int32) * v1))).bind fun w_22 =>
  (wrI 2 ks v1 sd).bind fun ks_34 =>
  some ((1 : Int32), w_22, (0 : Int32), (kp ||| ((1 : Int32) <<< (v1 &&& 31))), ks_34))
set_option maxRecDepth 100000 in
set_option maxHeartbeats 4000000 in
theorem kX8_keep (l : Launch) (D : va_G) (cI cJ cZ cN cM : ClassId) (a : Nat → Nat) (w : (Nat → Int32)) (kn : Int32) (kp : Int32) (sd : Int32) (ks : (Nat → Int32)) (bo : (Nat → Int32)) (bi : (Nat → Int32)) (bk : Int32) (ri : (Nat → Int32)) (fm : (Nat → Int32)) (tt : (Nat → Int32)) (le : Int32) (wa : (Nat → Int32)) (hd : (Nat → Int64)) (sx : (Nat → Int32)) (b1 : (Nat → Int64)) (b2 : (Nat → Int64)) (v1 : Int32) (r : Int32) (w_o : (Nat → Int32)) (kn_o : Int32) (kp_o : Int32) (ks_o : (Nat → Int32)) (hf : fX8_keep w kn kp sd ks v1 = some (r, w_o, kn_o, kp_o, ks_o)) : MetI l yX8_keep wsX8_keep rmX8_keep D (TYL cI cJ cZ cN cM) [.ref (a 0), .int v1] (mW cI cJ cZ cN cM a w kn kp sd ks bo bi bk ri fm tt le wa hd sx b1 b2) (mW cI cJ cZ cN cM a w_o kn_o kp_o sd ks_o bo bi bk ri fm tt le wa hd sx b1 b2) r := by
  refine MetI.mk (cc := cX8_keep) (maxL := 2) (own := RX8) (ty := .int) [(0, .ref (a 0)), (1, .int v1)] (by decide +kernel) rfl rfl (Nat.le_of_ble_eq_true rfl) rfl ?_
  intro p e s m args below meth c A Q C hret
  unfold fX8_keep at hf
  refine q_iload_n C 1 dX8_keep_0 rfl ?_
  refine q_iconst C 0 dX8_keep_1 (by decide) ?_
  refine q_iconst C 1 dX8_keep_2 (by decide) ?_
  obtain ⟨x3, hM, hf⟩ := bd_e hf
  refine q_callSI C (mW cI cJ cZ cN cM a w kn kp sd ks bo bi bk ri fm tt le wa hd sx b1 b2) (kX8_in l D cI cJ cZ cN cM   v1 (0 : Int32) (1 : Int32) x3 hM) (va_cwS 3 C.1.2.2.2.2 gX8_keep_X8_in rfl rfl rfl hdX8_in ⟨Nat.le_of_ble_eq_true rfl, Nat.le_of_ble_eq_true rfl⟩) FrX.none rfl rfl (Nat.le_of_ble_eq_true rfl) dX8_keep_3 ⟨Nat.zero_le _, Nat.zero_le _⟩ ?_
  refine q_if_ne C 12 dX8_keep_6 (by decide) hf (fun hf => ?_) (fun hf => ?_)
  · refine q_aload_n C 0 dX8_keep_12 rfl ?_
    refine q_iconst C 0 dX8_keep_13 (by decide) ?_
    refine q_sipush C 510 dX8_keep_14 (by decide) ?_
    refine q_bipush C 30 dX8_keep_17 (by decide) ?_
    refine q_iload_n C 1 dX8_keep_19 rfl ?_
    refine q_imul C dX8_keep_20 ?_
    refine q_iadd C dX8_keep_21 ?_
    obtain ⟨w_22, hM, hf⟩ := bd_e hf
    refine q_callVV C (mW cI cJ cZ cN cM a w_22 kn kp sd ks bo bi bk ri fm tt le wa hd sx b1 b2) (kX8_copyRow l D cI cJ cZ cN cM a w kn kp sd ks bo bi bk ri fm tt le wa hd sx b1 b2 (0 : Int32) ((510 : Int32) + ((30 : Int32) * v1)) w_22 hM) (cwV 2 C.1.2.2.2.2 gX8_keep_X8_copyRow rfl rfl rfl hdX8_copyRow ⟨Nat.le_of_ble_eq_true rfl, Nat.le_of_ble_eq_true rfl⟩) 0 7 rfl rfl FrX.all rfl rfl (Nat.le_of_ble_eq_true rfl) dX8_keep_22 ⟨Nat.zero_le _, Nat.zero_le _⟩ ?_
    refine q_aload_n C 0 dX8_keep_25 rfl ?_
    refine q_get C 0 4 dX8_keep_26 rfl rfl (Nat.le_of_ble_eq_true rfl) inX8_keep_X8 lkX8_keep_2 rfl rfl ?_
    refine q_iload_n C 1 dX8_keep_29 rfl ?_
    refine q_aload_n C 0 dX8_keep_30 rfl ?_
    refine q_get C 0 3 dX8_keep_31 rfl rfl (Nat.le_of_ble_eq_true rfl) inX8_keep_X8 lkX8_keep_3 rfl rfl ?_
    refine q_iast C 2 0 (fun ks_34 => mW cI cJ cZ cN cM a w_22 kn kp sd ks_34 bo bi bk ri fm tt le wa hd sx b1 b2) dX8_keep_34 rfl rfl (fun _ => rfl) hf (fun ks_34 hf => ?_)
    refine q_aload_n C 0 dX8_keep_35 rfl ?_
    refine q_dup C dX8_keep_36 rfl ?_
    refine q_get C 0 2 dX8_keep_37 rfl rfl (Nat.le_of_ble_eq_true rfl) inX8_keep_X8 lkX8_keep_4 rfl rfl ?_
    refine q_iconst C 1 dX8_keep_40 (by decide) ?_
    refine q_iload_n C 1 dX8_keep_41 rfl ?_
    refine q_ishl C dX8_keep_42 ?_
    refine q_ior C dX8_keep_43 ?_
    refine q_put C 0 2 (mW cI cJ cZ cN cM a w_22 kn (kp ||| ((1 : Int32) <<< (v1 &&& 31))) sd ks_34 bo bi bk ri fm tt le wa hd sx b1 b2) dX8_keep_44 rfl rfl (Nat.le_of_ble_eq_true rfl) inX8_keep_X8 tyX8 tyX8_ok nmX8 lkX8_keep_4 rfl rfl rfl rfl (Nat.le_of_ble_eq_true rfl) rfl ?_
    refine q_aload_n C 0 dX8_keep_47 rfl ?_
    refine q_iconst C 0 dX8_keep_48 (by decide) ?_
    refine q_put C 0 1 (mW cI cJ cZ cN cM a w_22 (0 : Int32) (kp ||| ((1 : Int32) <<< (v1 &&& 31))) sd ks_34 bo bi bk ri fm tt le wa hd sx b1 b2) dX8_keep_49 rfl rfl (Nat.le_of_ble_eq_true rfl) inX8_keep_X8 tyX8 tyX8_ok nmX8 lkX8_keep_5 rfl rfl rfl rfl (Nat.le_of_ble_eq_true rfl) rfl ?_
    refine q_iconst C 1 dX8_keep_52 (by decide) ?_
    have hy0 := Option.some.inj hf
    clear hf
    obtain ⟨hz1, hy1⟩ := Prod.mk.inj hy0
    clear hy0
    obtain ⟨hz2, hy2⟩ := Prod.mk.inj hy1
    clear hy1
    obtain ⟨hz3, hy3⟩ := Prod.mk.inj hy2
    clear hy2
    obtain ⟨hz4, hy4⟩ := Prod.mk.inj hy3
    clear hy3
    subst hz1
    subst hz2
    subst hz3
    subst hz4
    subst hy4
    exact hret _ _ dX8_keep_53 rfl
  · refine q_ldc C dX8_keep_9 lkX8_keep_1 ?_
    have hy0 := Option.some.inj hf
    clear hf
    obtain ⟨hz1, hy1⟩ := Prod.mk.inj hy0
    clear hy0
    obtain ⟨hz2, hy2⟩ := Prod.mk.inj hy1
    clear hy1
    obtain ⟨hz3, hy3⟩ := Prod.mk.inj hy2
    clear hy2
    obtain ⟨hz4, hy4⟩ := Prod.mk.inj hy3
    clear hy3
    subst hz1
    subst hz2
    subst hz3
    subst hz4
    subst hy4
    exact hret _ _ dX8_keep_11 rfl

theorem lkX8_goBack_1 : Cond.constant RX8 180 (-1000000001) ∈ wsX8_goBack := List.mem_of_getElem? (i := 1) rfl
theorem lkX8_goBack_2 : Cond.fieldLink RX8 231 "TwiceHeardModel" "kept" "I" ∈ wsX8_goBack := List.mem_of_getElem? (i := 2) rfl
theorem lkX8_goBack_3 : Cond.constant RX8 216 (-1000000003) ∈ wsX8_goBack := List.mem_of_getElem? (i := 3) rfl
theorem lkX8_goBack_4 : Cond.fieldLink RX8 13 "TwiceHeardModel" "keptSeed" "[I" ∈ wsX8_goBack := List.mem_of_getElem? (i := 4) rfl
theorem lkX8_goBack_5 : Cond.fieldLink RX8 176 "TwiceHeardModel" "seed" "I" ∈ wsX8_goBack := List.mem_of_getElem? (i := 5) rfl
theorem lkX8_goBack_6 : Cond.fieldLink RX8 173 "TwiceHeardModel" "known" "I" ∈ wsX8_goBack := List.mem_of_getElem? (i := 6) rfl
theorem inX8_goBack_X8 : ∀ w ∈ wsX80, w ∈ wsX8_goBack := fun w h => List.mem_cons_of_mem _ (List.mem_append_right _ h)
abbrev rmX8_goBack : Room := { frames := 1, cells := 0, slots := 0, locals := 23 }
theorem hdX8_goBack : yX8_goBack.cls = RX8 ∧ yX8_goBack.cls ≠ "java/lang/invoke/MethodHandle" ∧ yX8_goBack.cls ≠ "java/lang/invoke/VarHandle" ∧ (parseMethodDescriptor yX8_goBack.desc).map (fun d => d.parameters.length) = some 1 := by decide +kernel
def fX8_goBack (w : (Nat → Int32)) (kn : Int32) (kp : Int32) (sd : Int32) (ks : (Nat → Int32)) (v1 : Int32) : Option (Int32 × (Nat → Int32) × Int32 × Int32) :=
  (fX8_in v1 (0 : Int32) (1 : Int32)).bind fun x3 =>
  if x3 = 0 then (
  some ((-1000000001 : Int32), w, kn, sd)) else (
  if ((kp >>> (v1 &&& 31)) &&& (1 : Int32)) = 0 then (
  some ((-1000000003 : Int32), w, kn, sd)) else (
  (fX8_copyRow w ((510 : Int32) + ((30 : Int32) * v1)) (0 : Int32)).bind fun w_36 =>
  (rdI 2 ks v1).bind fun x45 =>
  some ((1 : Int32), w_36, (0 : Int32), x45)))
set_option maxRecDepth 100000 in
set_option maxHeartbeats 4000000 in
theorem kX8_goBack (l : Launch) (D : va_G) (cI cJ cZ cN cM : ClassId) (a : Nat → Nat) (w : (Nat → Int32)) (kn : Int32) (kp : Int32) (sd : Int32) (ks : (Nat → Int32)) (bo : (Nat → Int32)) (bi : (Nat → Int32)) (bk : Int32) (ri : (Nat → Int32)) (fm : (Nat → Int32)) (tt : (Nat → Int32)) (le : Int32) (wa : (Nat → Int32)) (hd : (Nat → Int64)) (sx : (Nat → Int32)) (b1 : (Nat → Int64)) (b2 : (Nat → Int64)) (v1 : Int32) (r : Int32) (w_o : (Nat → Int32)) (kn_o : Int32) (sd_o : Int32) (hf : fX8_goBack w kn kp sd ks v1 = some (r, w_o, kn_o, sd_o)) : MetI l yX8_goBack wsX8_goBack rmX8_goBack D (TYL cI cJ cZ cN cM) [.ref (a 0), .int v1] (mW cI cJ cZ cN cM a w kn kp sd ks bo bi bk ri fm tt le wa hd sx b1 b2) (mW cI cJ cZ cN cM a w_o kn_o kp sd_o ks bo bi bk ri fm tt le wa hd sx b1 b2) r := by
  refine MetI.mk (cc := cX8_goBack) (maxL := 2) (own := RX8) (ty := .int) [(0, .ref (a 0)), (1, .int v1)] (by decide +kernel) rfl rfl (Nat.le_of_ble_eq_true rfl) rfl ?_
  intro p e s m args below meth c A Q C hret
  unfold fX8_goBack at hf
  refine q_iload_n C 1 dX8_goBack_0 rfl ?_
  refine q_iconst C 0 dX8_goBack_1 (by decide) ?_
  refine q_iconst C 1 dX8_goBack_2 (by decide) ?_
  obtain ⟨x3, hM, hf⟩ := bd_e hf
  refine q_callSI C (mW cI cJ cZ cN cM a w kn kp sd ks bo bi bk ri fm tt le wa hd sx b1 b2) (kX8_in l D cI cJ cZ cN cM   v1 (0 : Int32) (1 : Int32) x3 hM) (va_cwS 3 C.1.2.2.2.2 gX8_goBack_X8_in rfl rfl rfl hdX8_in ⟨Nat.le_of_ble_eq_true rfl, Nat.le_of_ble_eq_true rfl⟩) FrX.none rfl rfl (Nat.le_of_ble_eq_true rfl) dX8_goBack_3 ⟨Nat.zero_le _, Nat.zero_le _⟩ ?_
  refine q_if_ne C 12 dX8_goBack_6 (by decide) hf (fun hf => ?_) (fun hf => ?_)
  · refine q_aload_n C 0 dX8_goBack_12 rfl ?_
    refine q_get C 0 2 dX8_goBack_13 rfl rfl (Nat.le_of_ble_eq_true rfl) inX8_goBack_X8 lkX8_goBack_2 rfl rfl ?_
    refine q_iload_n C 1 dX8_goBack_16 rfl ?_
    refine q_ishr C dX8_goBack_17 ?_
    refine q_iconst C 1 dX8_goBack_18 (by decide) ?_
    refine q_iand C dX8_goBack_19 ?_
    refine q_if_ne C 26 dX8_goBack_20 (by decide) hf (fun hf => ?_) (fun hf => ?_)
    · refine q_aload_n C 0 dX8_goBack_26 rfl ?_
      refine q_sipush C 510 dX8_goBack_27 (by decide) ?_
      refine q_bipush C 30 dX8_goBack_30 (by decide) ?_
      refine q_iload_n C 1 dX8_goBack_32 rfl ?_
      refine q_imul C dX8_goBack_33 ?_
      refine q_iadd C dX8_goBack_34 ?_
      refine q_iconst C 0 dX8_goBack_35 (by decide) ?_
      obtain ⟨w_36, hM, hf⟩ := bd_e hf
      refine q_callVV C (mW cI cJ cZ cN cM a w_36 kn kp sd ks bo bi bk ri fm tt le wa hd sx b1 b2) (kX8_copyRow l D cI cJ cZ cN cM a w kn kp sd ks bo bi bk ri fm tt le wa hd sx b1 b2 ((510 : Int32) + ((30 : Int32) * v1)) (0 : Int32) w_36 hM) (cwV 2 C.1.2.2.2.2 gX8_goBack_X8_copyRow rfl rfl rfl hdX8_copyRow ⟨Nat.le_of_ble_eq_true rfl, Nat.le_of_ble_eq_true rfl⟩) 0 7 rfl rfl FrX.all rfl rfl (Nat.le_of_ble_eq_true rfl) dX8_goBack_36 ⟨Nat.zero_le _, Nat.zero_le _⟩ ?_
      refine q_aload_n C 0 dX8_goBack_39 rfl ?_
      refine q_aload_n C 0 dX8_goBack_40 rfl ?_
      refine q_get C 0 4 dX8_goBack_41 rfl rfl (Nat.le_of_ble_eq_true rfl) inX8_goBack_X8 lkX8_goBack_4 rfl rfl ?_
      refine q_iload_n C 1 dX8_goBack_44 rfl ?_
      refine q_iald C 2 0 dX8_goBack_45 rfl rfl hf (fun x45 hf => ?_)
      refine q_put C 0 3 (mW cI cJ cZ cN cM a w_36 kn kp x45 ks bo bi bk ri fm tt le wa hd sx b1 b2) dX8_goBack_46 rfl rfl (Nat.le_of_ble_eq_true rfl) inX8_goBack_X8 tyX8 tyX8_ok nmX8 lkX8_goBack_5 rfl rfl rfl rfl (Nat.le_of_ble_eq_true rfl) rfl ?_
      refine q_aload_n C 0 dX8_goBack_49 rfl ?_
      refine q_iconst C 0 dX8_goBack_50 (by decide) ?_
      refine q_put C 0 1 (mW cI cJ cZ cN cM a w_36 (0 : Int32) kp x45 ks bo bi bk ri fm tt le wa hd sx b1 b2) dX8_goBack_51 rfl rfl (Nat.le_of_ble_eq_true rfl) inX8_goBack_X8 tyX8 tyX8_ok nmX8 lkX8_goBack_6 rfl rfl rfl rfl (Nat.le_of_ble_eq_true rfl) rfl ?_
      refine q_iconst C 1 dX8_goBack_54 (by decide) ?_
      have hy0 := Option.some.inj hf
      clear hf
      obtain ⟨hz1, hy1⟩ := Prod.mk.inj hy0
      clear hy0
      obtain ⟨hz2, hy2⟩ := Prod.mk.inj hy1
      clear hy1
      obtain ⟨hz3, hy3⟩ := Prod.mk.inj hy2
      clear hy2
      subst hz1
      subst hz2
      subst hz3
      subst hy3
      exact hret _ _ dX8_goBack_55 rfl
    · refine q_ldc C dX8_goBack_23 lkX8_goBack_3 ?_
      have hy0 := Option.some.inj hf
      clear hf
      obtain ⟨hz1, hy1⟩ := Prod.mk.inj hy0
      clear hy0
      obtain ⟨hz2, hy2⟩ := Prod.mk.inj hy1
      clear hy1
      obtain ⟨hz3, hy3⟩ := Prod.mk.inj hy2
      clear hy2
      subst hz1
      subst hz2
      subst hz3
      subst hy3
      exact hret _ _ dX8_goBack_25 rfl
  · refine q_ldc C dX8_goBack_9 lkX8_goBack_1 ?_
    have hy0 := Option.some.inj hf
    clear hf
    obtain ⟨hz1, hy1⟩ := Prod.mk.inj hy0
    clear hy0
    obtain ⟨hz2, hy2⟩ := Prod.mk.inj hy1
    clear hy1
    obtain ⟨hz3, hy3⟩ := Prod.mk.inj hy2
    clear hy2
    subst hz1
    subst hz2
    subst hz3
    subst hy3
    exact hret _ _ dX8_goBack_11 rfl
