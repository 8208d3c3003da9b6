theorem lkX8_remember_1 : Cond.fieldLink RX8 173 "TwiceHeardModel" "known" "I" ∈ wsX8_remember := List.mem_of_getElem? (i := 1) rfl
theorem inX8_remember_X8 : ∀ w ∈ wsX80, w ∈ wsX8_remember := fun w h => List.mem_cons_of_mem _ (List.mem_append_right _ h)
abbrev rmX8_remember : Room := { frames := 1, cells := 0, slots := 0, locals := 23 }
theorem hdX8_remember : yX8_remember.cls = RX8 ∧ yX8_remember.cls ≠ "java/lang/invoke/MethodHandle" ∧ yX8_remember.cls ≠ "java/lang/invoke/VarHandle" ∧ (parseMethodDescriptor yX8_remember.desc).map (fun d => d.parameters.length) = some 0 := by decide +kernel
def fX8_remember_L11  : Nat → Int32 → (Nat → Int32) → Option ((Nat → Int32))
  | 0, _, _ => none
  | n + 1, v1, w =>
  if (16 : Int32) ≤ v1 then (
  some w) else (
  (fX8_copyRow w ((30 : Int32) * (v1 + (1 : Int32))) ((30 : Int32) * v1)).bind fun w_28 =>
  fX8_remember_L11 n (v1 + 1) w_28)
def fX8_remember (w : (Nat → Int32)) (kn : Int32)  : Option ((Nat → Int32) × Int32) :=
  jn2 (fun (w_47 : (Nat → Int32)) (kn_47 : Int32) => 
  (fX8_copyRow w_47 (0 : Int32) ((30 : Int32) * (kn_47 + (1 : Int32)))).bind fun w_58 =>
  some (w_58, (kn_47 + (1 : Int32)))) fun k47 =>
  if kn = (16 : Int32) then (
  (fX8_remember_L11  300 (1 : Int32) w).bind fun w_11 =>
  k47 w_11 (kn - (1 : Int32))) else (
  k47 w kn)
set_option maxRecDepth 100000 in
set_option maxHeartbeats 4000000 in
theorem wX8_remember_L11 {p : Program} {l : Launch} {e : Env} {s : State} {m : MethodId} {args : Array Value} {below : List Frame} {meth : Method} {c : Code} {Q : State → Prop} {D : va_G} {A : Nat → Prop} {cI cJ cZ cN cM : ClassId} (C : Cx p s m args c cX8_remember 2 RX8 wsX8_remember D (TYL cI cJ cZ cN cM) A) (a : Nat → Nat) (kn : Int32) (kp : Int32) (sd : Int32) (ks : (Nat → Int32)) (bo : (Nat → Int32)) (bi : (Nat → Int32)) (bk : Int32) (ri : (Nat → Int32)) (fm : (Nat → Int32)) (tt : (Nat → Int32)) (le : Int32) (wa : (Nat → Int32)) (hd : (Nat → Int64)) (sx : (Nat → Int32)) (b1 : (Nat → Int64)) (b2 : (Nat → Int64))  (w_o : (Nat → Int32)) (kk : WW p l e rmX8_remember s m args below meth c Q D A 2 0 0 (mW cI cJ cZ cN cM a w_o kn kp sd ks bo bi bk ri fm tt le wa hd sx b1 b2) [(0, .ref (a 0))] 37 []) : ∀ (n : Nat) (v1 : Int32) (w : (Nat → Int32)), fX8_remember_L11  n v1 w = some w_o → WW p l e rmX8_remember s m args below meth c Q D A 2 0 0 (mW cI cJ cZ cN cM a w kn kp sd ks bo bi bk ri fm tt le wa hd sx b1 b2) [(0, .ref (a 0)), (1, .int v1)] 11 [] := by
  intro n
  induction n with
  | zero =>
    intro v1 w hf
    rw [fX8_remember_L11] at hf
    cases hf
  | succ n ih =>
    intro v1 w hf
    rw [fX8_remember_L11] at hf
    refine q_iload_n C 1 dX8_remember_11 rfl ?_
    refine q_bipush C 16 dX8_remember_12 (by decide) ?_
    refine q_icmp_ge C 37 dX8_remember_14 (by decide) hf (fun hf => ?_) (fun hf => ?_)
    · refine q_lv [(0, .ref (a 0))] [0] rfl ?_
      have hz1 := Option.some.inj hf
      clear hf
      subst hz1
      exact kk
    · refine q_aload_n C 0 dX8_remember_17 rfl ?_
      refine q_bipush C 30 dX8_remember_18 (by decide) ?_
      refine q_iload_n C 1 dX8_remember_20 rfl ?_
      refine q_iconst C 1 dX8_remember_21 (by decide) ?_
      refine q_iadd C dX8_remember_22 ?_
      refine q_imul C dX8_remember_23 ?_
      refine q_bipush C 30 dX8_remember_24 (by decide) ?_
      refine q_iload_n C 1 dX8_remember_26 rfl ?_
      refine q_imul C dX8_remember_27 ?_
      obtain ⟨w_28, hM, hf⟩ := bd_e hf
      refine q_callVV C (mW cI cJ cZ cN cM a w_28 kn kp sd ks bo bi bk ri fm tt le wa hd sx b1 b2) (kX8_copyRow l D cI cJ cZ cN cM a w kn kp sd ks bo bi bk ri fm tt le wa hd sx b1 b2 ((30 : Int32) * (v1 + (1 : Int32))) ((30 : Int32) * v1) w_28 hM) (cwV 2 C.1.2.2.2.2 gX8_remember_X8_copyRow rfl rfl rfl hdX8_copyRow ⟨Nat.le_of_ble_eq_true rfl, Nat.le_of_ble_eq_true rfl⟩) 0 7 rfl rfl FrX.all rfl rfl (Nat.le_of_ble_eq_true rfl) dX8_remember_28 ⟨Nat.zero_le _, Nat.zero_le _⟩ ?_
      refine q_iinc C (v1 + 1) 1 [(1, .int (v1 + 1)), (0, .ref (a 0))] dX8_remember_31 rfl rfl (by decide) rfl ?_
      refine q_goto C 11 dX8_remember_34 (by decide) ?_
      refine q_lv [(0, .ref (a 0)), (1, .int (v1 + 1))] [1, 0] rfl ?_
      exact ih _ _ hf
set_option maxRecDepth 100000 in
set_option maxHeartbeats 4000000 in
theorem kX8_remember (l : Launch) (D : va_G) (cI cJ cZ cN cM : ClassId) (a : Nat → Nat) (w : (Nat → Int32)) (kn : Int32) (kp : Int32) (sd : Int32) (ks : (Nat → Int32)) (bo : (Nat → Int32)) (bi : (Nat → Int32)) (bk : Int32) (ri : (Nat → Int32)) (fm : (Nat → Int32)) (tt : (Nat → Int32)) (le : Int32) (wa : (Nat → Int32)) (hd : (Nat → Int64)) (sx : (Nat → Int32)) (b1 : (Nat → Int64)) (b2 : (Nat → Int64))  (w_o : (Nat → Int32)) (kn_o : Int32) (hf : fX8_remember w kn = some (w_o, kn_o)) : MetV l yX8_remember wsX8_remember rmX8_remember D (TYL cI cJ cZ cN cM) [.ref (a 0)] (mW cI cJ cZ cN cM a w kn kp sd ks bo bi bk ri fm tt le wa hd sx b1 b2) (mW cI cJ cZ cN cM a w_o kn_o kp sd ks bo bi bk ri fm tt le wa hd sx b1 b2) := by
  refine MetV.mk (cc := cX8_remember) (maxL := 2) (own := RX8) [(0, .ref (a 0))] (by decide +kernel) rfl rfl (Nat.le_of_ble_eq_true rfl) rfl ?_
  intro p e s m args below meth c A Q C hret
  unfold fX8_remember at hf
  refine q_aload_n C 0 dX8_remember_0 rfl ?_
  refine q_get C 0 1 dX8_remember_1 rfl rfl (Nat.le_of_ble_eq_true rfl) inX8_remember_X8 lkX8_remember_1 rfl rfl ?_
  refine q_bipush C 16 dX8_remember_4 (by decide) ?_
  refine jn2_e (fun (w_47 : (Nat → Int32)) (kn_47 : Int32) => WW p l e rmX8_remember s m args below meth c Q D A 2 0 0 (mW cI cJ cZ cN cM a w_47 kn_47 kp sd ks bo bi bk ri fm tt le wa hd sx b1 b2) [(0, .ref (a 0))] 47 []) hf ?_ ?_
  · intro w_47 kn_47 hf
    refine q_aload_n C 0 dX8_remember_47 rfl ?_
    refine q_iconst C 0 dX8_remember_48 (by decide) ?_
    refine q_bipush C 30 dX8_remember_49 (by decide) ?_
    refine q_aload_n C 0 dX8_remember_51 rfl ?_
    refine q_get C 0 1 dX8_remember_52 rfl rfl (Nat.le_of_ble_eq_true rfl) inX8_remember_X8 lkX8_remember_1 rfl rfl ?_
    refine q_iconst C 1 dX8_remember_55 (by decide) ?_
    refine q_iadd C dX8_remember_56 ?_
    refine q_imul C dX8_remember_57 ?_
    obtain ⟨w_58, hM, hf⟩ := bd_e hf
    refine q_callVV C (mW cI cJ cZ cN cM a w_58 kn_47 kp sd ks bo bi bk ri fm tt le wa hd sx b1 b2) (kX8_copyRow l D cI cJ cZ cN cM a w_47 kn_47 kp sd ks bo bi bk ri fm tt le wa hd sx b1 b2 (0 : Int32) ((30 : Int32) * (kn_47 + (1 : Int32))) w_58 hM) (cwV 2 C.1.2.2.2.2 gX8_remember_X8_copyRow rfl rfl rfl hdX8_copyRow ⟨Nat.le_of_ble_eq_true rfl, Nat.le_of_ble_eq_true rfl⟩) 0 7 rfl rfl FrX.all rfl rfl (Nat.le_of_ble_eq_true rfl) dX8_remember_58 ⟨Nat.zero_le _, Nat.zero_le _⟩ ?_
    refine q_aload_n C 0 dX8_remember_61 rfl ?_
    refine q_dup C dX8_remember_62 rfl ?_
    refine q_get C 0 1 dX8_remember_63 rfl rfl (Nat.le_of_ble_eq_true rfl) inX8_remember_X8 lkX8_remember_1 rfl rfl ?_
    refine q_iconst C 1 dX8_remember_66 (by decide) ?_
    refine q_iadd C dX8_remember_67 ?_
    refine q_put C 0 1 (mW cI cJ cZ cN cM a w_58 (kn_47 + (1 : Int32)) kp sd ks bo bi bk ri fm tt le wa hd sx b1 b2) dX8_remember_68 rfl rfl (Nat.le_of_ble_eq_true rfl) inX8_remember_X8 tyX8 tyX8_ok nmX8 lkX8_remember_1 rfl rfl rfl rfl (Nat.le_of_ble_eq_true rfl) rfl ?_
    have hy0 := Option.some.inj hf
    clear hf
    obtain ⟨hz1, hy1⟩ := Prod.mk.inj hy0
    clear hy0
    subst hz1
    subst hy1
    exact hret _ _ dX8_remember_71
  intro k47 J47 hf
  refine q_icmp_ne C 47 dX8_remember_6 (by decide) hf (fun hf => ?_) (fun hf => ?_)
  · exact J47 _ _ hf
  · refine q_iconst C 1 dX8_remember_9 (by decide) ?_
    refine q_istore_n C [(1, .int (1 : Int32)), (0, .ref (a 0))] dX8_remember_10 (by decide) rfl ?_
    obtain ⟨w_11, hL, hf⟩ := bd_e hf
    refine q_lv [(0, .ref (a 0)), (1, .int (1 : Int32))] [1, 0] rfl ?_
    refine wX8_remember_L11 C a kn kp sd ks bo bi bk ri fm tt le wa hd sx b1 b2  w_11 ?_ 300 _ _ hL
    refine q_aload_n C 0 dX8_remember_37 rfl ?_
    refine q_dup C dX8_remember_38 rfl ?_
    refine q_get C 0 1 dX8_remember_39 rfl rfl (Nat.le_of_ble_eq_true rfl) inX8_remember_X8 lkX8_remember_1 rfl rfl ?_
    refine q_iconst C 1 dX8_remember_42 (by decide) ?_
    refine q_isub C dX8_remember_43 ?_
    refine q_put C 0 1 (mW cI cJ cZ cN cM a w_11 (kn - (1 : Int32)) kp sd ks bo bi bk ri fm tt le wa hd sx b1 b2) dX8_remember_44 rfl rfl (Nat.le_of_ble_eq_true rfl) inX8_remember_X8 tyX8 tyX8_ok nmX8 lkX8_remember_1 rfl rfl rfl rfl (Nat.le_of_ble_eq_true rfl) rfl ?_
    exact J47 _ _ hf

theorem lkX8_put_1 : Cond.fieldLink RX8 9 "TwiceHeardModel" "w" "[I" ∈ wsX8_put := List.mem_of_getElem? (i := 1) rfl
theorem inX8_put_X8 : ∀ w ∈ wsX80, w ∈ wsX8_put := fun w h => List.mem_cons_of_mem _ (List.mem_append_right _ h)
abbrev rmX8_put : Room := { frames := 2, cells := 0, slots := 0, locals := 44 }
theorem hdX8_put : yX8_put.cls = RX8 ∧ yX8_put.cls ≠ "java/lang/invoke/MethodHandle" ∧ yX8_put.cls ≠ "java/lang/invoke/VarHandle" ∧ (parseMethodDescriptor yX8_put.desc).map (fun d => d.parameters.length) = some 2 := by decide +kernel
def fX8_put (w : (Nat → Int32)) (kn : Int32) (v1 : Int32) (v2 : Int32) : Option (Int32 × (Nat → Int32) × Int32) :=
  bd2 (fX8_remember w kn) fun w_1 kn_1 =>
  (rdI 570 w_1 v1).bind fun x9 =>
  (wrI 570 w_1 v1 v2).bind fun w_17 =>
  some (x9, w_17, kn_1)
set_option maxRecDepth 100000 in
set_option maxHeartbeats 4000000 in
theorem kX8_put (l : Launch) (D : va_G) (cI cJ cZ cN cM : ClassId) (a : Nat → Nat) (w : (Nat → Int32)) (kn : Int32) (kp : Int32) (sd : Int32) (ks : (Nat → Int32)) (bo : (Nat → Int32)) (bi : (Nat → Int32)) (bk : Int32) (ri : (Nat → Int32)) (fm : (Nat → Int32)) (tt : (Nat → Int32)) (le : Int32) (wa : (Nat → Int32)) (hd : (Nat → Int64)) (sx : (Nat → Int32)) (b1 : (Nat → Int64)) (b2 : (Nat → Int64)) (v1 : Int32) (v2 : Int32) (r : Int32) (w_o : (Nat → Int32)) (kn_o : Int32) (hf : fX8_put w kn v1 v2 = some (r, w_o, kn_o)) : MetI l yX8_put wsX8_put rmX8_put D (TYL cI cJ cZ cN cM) [.ref (a 0), .int v1, .int v2] (mW cI cJ cZ cN cM a w kn kp sd ks bo bi bk ri fm tt le wa hd sx b1 b2) (mW cI cJ cZ cN cM a w_o kn_o kp sd ks bo bi bk ri fm tt le wa hd sx b1 b2) r := by
  refine MetI.mk (cc := cX8_put) (maxL := 4) (own := RX8) (ty := .int) [(0, .ref (a 0)), (1, .int v1), (2, .int v2)] (by decide +kernel) rfl rfl (Nat.le_of_ble_eq_true rfl) rfl ?_
  intro p e s m args below meth c A Q C hret
  unfold fX8_put at hf
  refine q_aload_n C 0 dX8_put_0 rfl ?_
  obtain ⟨w_1, kn_1, hM, hf⟩ := bd2_e hf
  refine q_callVV C (mW cI cJ cZ cN cM a w_1 kn_1 kp sd ks bo bi bk ri fm tt le wa hd sx b1 b2) (kX8_remember l D cI cJ cZ cN cM a w kn kp sd ks bo bi bk ri fm tt le wa hd sx b1 b2  w_1 kn_1 hM) (cwV 0 C.1.2.2.2.2 gX8_put_X8_remember rfl rfl rfl hdX8_remember ⟨Nat.le_of_ble_eq_true rfl, Nat.le_of_ble_eq_true rfl⟩) 0 7 rfl rfl FrX.all rfl rfl (Nat.le_of_ble_eq_true rfl) dX8_put_1 ⟨Nat.zero_le _, Nat.zero_le _⟩ ?_
  refine q_aload_n C 0 dX8_put_4 rfl ?_
  refine q_get C 0 0 dX8_put_5 rfl rfl (Nat.le_of_ble_eq_true rfl) inX8_put_X8 lkX8_put_1 rfl rfl ?_
  refine q_iload_n C 1 dX8_put_8 rfl ?_
  refine q_iald C 1 0 dX8_put_9 rfl rfl hf (fun x9 hf => ?_)
  refine q_istore_n C [(3, .int x9), (0, .ref (a 0)), (1, .int v1), (2, .int v2)] dX8_put_10 (by decide) rfl ?_
  refine q_aload_n C 1 dX8_put_11 rfl ?_
  refine q_get C 0 0 dX8_put_12 rfl rfl (Nat.le_of_ble_eq_true rfl) inX8_put_X8 lkX8_put_1 rfl rfl ?_
  refine q_iload_n C 2 dX8_put_15 rfl ?_
  refine q_iload_n C 3 dX8_put_16 rfl ?_
  refine q_iast C 1 0 (fun w_17 => mW cI cJ cZ cN cM a w_17 kn_1 kp sd ks bo bi bk ri fm tt le wa hd sx b1 b2) dX8_put_17 rfl rfl (fun _ => rfl) hf (fun w_17 hf => ?_)
  refine q_iload_n C 0 dX8_put_18 rfl ?_
  have hy0 := Option.some.inj hf
  clear hf
  obtain ⟨hz1, hy1⟩ := Prod.mk.inj hy0
  clear hy0
  obtain ⟨hz2, hy2⟩ := Prod.mk.inj hy1
  clear hy1
  subst hz1
  subst hz2
  subst hy2
  exact hret _ _ dX8_put_19 rfl

theorem lkX8_turn_1 : Cond.fieldLink RX8 9 "TwiceHeardModel" "w" "[I" ∈ wsX8_turn := List.mem_of_getElem? (i := 1) rfl
theorem inX8_turn_X8 : ∀ w ∈ wsX80, w ∈ wsX8_turn := fun w h => List.mem_cons_of_mem _ (List.mem_append_right _ h)
abbrev rmX8_turn : Room := { frames := 0, cells := 0, slots := 0, locals := 0 }
theorem hdX8_turn : yX8_turn.cls = RX8 ∧ yX8_turn.cls ≠ "java/lang/invoke/MethodHandle" ∧ yX8_turn.cls ≠ "java/lang/invoke/VarHandle" ∧ (parseMethodDescriptor yX8_turn.desc).map (fun d => d.parameters.length) = some 3 := by decide +kernel
def fX8_turn (w : (Nat → Int32)) (v1 : Int32) (v2 : Int32) (v3 : Int32) : Option ((Nat → Int32)) :=
  (rdI 570 w (v1 + v2)).bind fun x8 =>
  (wrI 570 w (v1 + v2) (x8 ^^^ ((1 : Int32) <<< (v3 &&& 31)))).bind fun w_13 =>
  (rdI 570 w_13 (v1 + v3)).bind fun x22 =>
  (wrI 570 w_13 (v1 + v3) (x22 ^^^ ((1 : Int32) <<< (v2 &&& 31)))).bind fun w_27 =>
  some w_27
set_option maxRecDepth 100000 in
set_option maxHeartbeats 4000000 in
theorem kX8_turn (l : Launch) (D : va_G) (cI cJ cZ cN cM : ClassId) (a : Nat → Nat) (w : (Nat → Int32)) (kn : Int32) (kp : Int32) (sd : Int32) (ks : (Nat → Int32)) (bo : (Nat → Int32)) (bi : (Nat → Int32)) (bk : Int32) (ri : (Nat → Int32)) (fm : (Nat → Int32)) (tt : (Nat → Int32)) (le : Int32) (wa : (Nat → Int32)) (hd : (Nat → Int64)) (sx : (Nat → Int32)) (b1 : (Nat → Int64)) (b2 : (Nat → Int64)) (v1 : Int32) (v2 : Int32) (v3 : Int32) (w_o : (Nat → Int32)) (hf : fX8_turn w v1 v2 v3 = some w_o) : MetV l yX8_turn wsX8_turn rmX8_turn D (TYL cI cJ cZ cN cM) [.ref (a 0), .int v1, .int v2, .int v3] (mW cI cJ cZ cN cM a w kn kp sd ks bo bi bk ri fm tt le wa hd sx b1 b2) (mW cI cJ cZ cN cM a w_o kn kp sd ks bo bi bk ri fm tt le wa hd sx b1 b2) := by
  refine MetV.mk (cc := cX8_turn) (maxL := 4) (own := RX8) [(0, .ref (a 0)), (1, .int v1), (2, .int v2), (3, .int v3)] (by decide +kernel) rfl rfl (Nat.le_of_ble_eq_true rfl) rfl ?_
  intro p e s m args below meth c A Q C hret
  unfold fX8_turn at hf
  refine q_aload_n C 0 dX8_turn_0 rfl ?_
  refine q_get C 0 0 dX8_turn_1 rfl rfl (Nat.le_of_ble_eq_true rfl) inX8_turn_X8 lkX8_turn_1 rfl rfl ?_
  refine q_iload_n C 1 dX8_turn_4 rfl ?_
  refine q_iload_n C 2 dX8_turn_5 rfl ?_
  refine q_iadd C dX8_turn_6 ?_
  refine q_dup2 C dX8_turn_7 rfl rfl ?_
  refine q_iald C 1 0 dX8_turn_8 rfl rfl hf (fun x8 hf => ?_)
  refine q_iconst C 1 dX8_turn_9 (by decide) ?_
  refine q_iload_n C 3 dX8_turn_10 rfl ?_
  refine q_ishl C dX8_turn_11 ?_
  refine q_ixor C dX8_turn_12 ?_
  refine q_iast C 1 0 (fun w_13 => mW cI cJ cZ cN cM a w_13 kn kp sd ks bo bi bk ri fm tt le wa hd sx b1 b2) dX8_turn_13 rfl rfl (fun _ => rfl) hf (fun w_13 hf => ?_)
  refine q_aload_n C 0 dX8_turn_14 rfl ?_
  refine q_get C 0 0 dX8_turn_15 rfl rfl (Nat.le_of_ble_eq_true rfl) inX8_turn_X8 lkX8_turn_1 rfl rfl ?_
  refine q_iload_n C 1 dX8_turn_18 rfl ?_
  refine q_iload_n C 3 dX8_turn_19 rfl ?_
  refine q_iadd C dX8_turn_20 ?_
  refine q_dup2 C dX8_turn_21 rfl rfl ?_
  refine q_iald C 1 0 dX8_turn_22 rfl rfl hf (fun x22 hf => ?_)
  refine q_iconst C 1 dX8_turn_23 (by decide) ?_
  refine q_iload_n C 2 dX8_turn_24 rfl ?_
  refine q_ishl C dX8_turn_25 ?_
  refine q_ixor C dX8_turn_26 ?_
  refine q_iast C 1 0 (fun w_27 => mW cI cJ cZ cN cM a w_27 kn kp sd ks bo bi bk ri fm tt le wa hd sx b1 b2) dX8_turn_27 rfl rfl (fun _ => rfl) hf (fun w_27 hf => ?_)
  have hz1 := Option.some.inj hf
  clear hf
  subst hz1
  exact hret _ _ dX8_turn_28

theorem lkX8_node_1 : Cond.fieldLink RX8 9 "TwiceHeardModel" "w" "[I" ∈ wsX8_node := List.mem_of_getElem? (i := 1) rfl
theorem lkX8_node_2 : Cond.constant RX8 180 (-1000000001) ∈ wsX8_node := List.mem_of_getElem? (i := 2) rfl
theorem lkX8_node_3 : Cond.constant RX8 210 (65535) ∈ wsX8_node := List.mem_of_getElem? (i := 3) rfl
theorem lkX8_node_4 : Cond.constant RX8 179 (-1000000002) ∈ wsX8_node := List.mem_of_getElem? (i := 4) rfl
theorem lkX8_node_5 : Cond.constant RX8 211 (-1000000004) ∈ wsX8_node := List.mem_of_getElem? (i := 5) rfl
theorem inX8_node_X8 : ∀ w ∈ wsX80, w ∈ wsX8_node := fun w h => List.mem_cons_of_mem _ (List.mem_append_right _ h)
abbrev rmX8_node : Room := { frames := 2, cells := 0, slots := 0, locals := 44 }
theorem hdX8_node : yX8_node.cls = RX8 ∧ yX8_node.cls ≠ "java/lang/invoke/MethodHandle" ∧ yX8_node.cls ≠ "java/lang/invoke/VarHandle" ∧ (parseMethodDescriptor yX8_node.desc).map (fun d => d.parameters.length) = some 2 := by decide +kernel
def fX8_node_L101 (v1 : Int32) (v3 : Int32) : Nat → Int32 → (Nat → Int32) → Option ((Nat → Int32))
  | 0, _, _ => none
  | n + 1, v4, w =>
  if v3 ≤ v4 then (
  some w) else (
  (fX8_has v1 v4).bind fun x110 =>
  jn1 (fun (w_124 : (Nat → Int32)) => 
  fX8_node_L101 v1 v3 n (v4 + 1) w_124) fun k124 =>
  if x110 = 0 then (
  k124 w) else (
  (fX8_turn w (3 : Int32) v4 v3).bind fun w_121 =>
  k124 w_121))
def fX8_node (w : (Nat → Int32)) (kn : Int32) (v1 : Int32) (v2 : Int32) : Option (Int32 × (Nat → Int32) × Int32) :=
  (fX8_in v1 (0 : Int32) (((1 : Int32) <<< ((w 0) &&& 31)) - (1 : Int32))).bind fun x12 =>
  if x12 = 0 then (
  some ((-1000000001 : Int32), w, kn)) else (
  (fX8_in v2 (0 : Int32) (65535 : Int32)).bind fun x25 =>
  if x25 = 0 then (
  some ((-1000000002 : Int32), w, kn)) else (
  if (w 0) = (9 : Int32) then (
  some ((-1000000004 : Int32), w, kn)) else (
  bd2 (fX8_remember w kn) fun w_49 kn_49 =>
  (wrI 570 (upd w_49 0 ((w_49 0) + (1 : Int32))) ((3 : Int32) + (w_49 0)) (0 : Int32)).bind fun w_77 =>
  (wrI 570 w_77 ((12 : Int32) + (w_49 0)) (0 : Int32)).bind fun w_87 =>
  (wrI 570 w_87 ((21 : Int32) + (w_49 0)) v2).bind fun w_97 =>
  (fX8_node_L101 v1 (w_49 0) 300 (0 : Int32) w_97).bind fun w_101 =>
  some ((w_49 0), w_101, kn_49))))
set_option maxRecDepth 100000 in
set_option maxHeartbeats 4000000 in
theorem wX8_node_L101 {p : Program} {l : Launch} {e : Env} {s : State} {m : MethodId} {args : Array Value} {below : List Frame} {meth : Method} {c : Code} {Q : State → Prop} {D : va_G} {A : Nat → Prop} {cI cJ cZ cN cM : ClassId} (C : Cx p s m args c cX8_node 5 RX8 wsX8_node D (TYL cI cJ cZ cN cM) A) (a : Nat → Nat) (kn : Int32) (kp : Int32) (sd : Int32) (ks : (Nat → Int32)) (bo : (Nat → Int32)) (bi : (Nat → Int32)) (bk : Int32) (ri : (Nat → Int32)) (fm : (Nat → Int32)) (tt : (Nat → Int32)) (le : Int32) (wa : (Nat → Int32)) (hd : (Nat → Int64)) (sx : (Nat → Int32)) (b1 : (Nat → Int64)) (b2 : (Nat → Int64)) (v1 : Int32) (v3 : Int32) (w_o : (Nat → Int32)) (kk : WW p l e rmX8_node s m args below meth c Q D A 5 0 0 (mW cI cJ cZ cN cM a w_o kn kp sd ks bo bi bk ri fm tt le wa hd sx b1 b2) [(3, .int v3)] 130 []) : ∀ (n : Nat) (v4 : Int32) (w : (Nat → Int32)), fX8_node_L101 v1 v3 n v4 w = some w_o → WW p l e rmX8_node s m args below meth c Q D A 5 0 0 (mW cI cJ cZ cN cM a w kn kp sd ks bo bi bk ri fm tt le wa hd sx b1 b2) [(0, .ref (a 0)), (1, .int v1), (3, .int v3), (4, .int v4)] 101 [] := by
  intro n
  induction n with
  | zero =>
    intro v4 w hf
    rw [fX8_node_L101] at hf
    cases hf
  | succ n ih =>
    intro v4 w hf
    rw [fX8_node_L101] at hf
    refine q_iload C 3 dX8_node_101 rfl ?_
    refine q_iload_n C 2 dX8_node_103 rfl ?_
    refine q_icmp_ge C 130 dX8_node_104 (by decide) hf (fun hf => ?_) (fun hf => ?_)
    · refine q_lv [(3, .int v3)] [2] rfl ?_
      have hz1 := Option.some.inj hf
      clear hf
      subst hz1
      exact kk
    · refine q_iload_n C 1 dX8_node_107 rfl ?_
      refine q_iload C 3 dX8_node_108 rfl ?_
      obtain ⟨x110, hM, hf⟩ := bd_e hf
      refine q_callSI C (mW cI cJ cZ cN cM a w kn kp sd ks bo bi bk ri fm tt le wa hd sx b1 b2) (kX8_has l D cI cJ cZ cN cM   v1 v4 x110 hM) (va_cwS 2 C.1.2.2.2.2 gX8_node_X8_has rfl rfl rfl hdX8_has ⟨Nat.le_of_ble_eq_true rfl, Nat.le_of_ble_eq_true rfl⟩) FrX.none rfl rfl (Nat.le_of_ble_eq_true rfl) dX8_node_110 ⟨Nat.zero_le _, Nat.zero_le _⟩ ?_
      refine jn1_e (fun (w_124 : (Nat → Int32)) => WW p l e rmX8_node s m args below meth c Q D A 5 0 0 (mW cI cJ cZ cN cM a w_124 kn kp sd ks bo bi bk ri fm tt le wa hd sx b1 b2) [(0, .ref (a 0)), (1, .int v1), (3, .int v3), (4, .int v4)] 124 []) hf ?_ ?_
      · intro w_124 hf
        refine q_iinc C (v4 + 1) 3 [(4, .int (v4 + 1)), (0, .ref (a 0)), (1, .int v1), (3, .int v3)] dX8_node_124 rfl rfl (by decide) rfl ?_
        refine q_goto C 101 dX8_node_127 (by decide) ?_
        refine q_lv [(0, .ref (a 0)), (1, .int v1), (3, .int v3), (4, .int (v4 + 1))] [1, 2, 3, 0] rfl ?_
        exact ih _ _ hf
      intro k124 J124 hf
      refine q_if_eq C 124 dX8_node_113 (by decide) hf (fun hf => ?_) (fun hf => ?_)
      · exact J124 _ hf
      · refine q_aload_n C 0 dX8_node_116 rfl ?_
        refine q_iconst C 3 dX8_node_117 (by decide) ?_
        refine q_iload C 3 dX8_node_118 rfl ?_
        refine q_iload_n C 2 dX8_node_120 rfl ?_
        obtain ⟨w_121, hM, hf⟩ := bd_e hf
        refine q_callVV C (mW cI cJ cZ cN cM a w_121 kn kp sd ks bo bi bk ri fm tt le wa hd sx b1 b2) (kX8_turn l D cI cJ cZ cN cM a w kn kp sd ks bo bi bk ri fm tt le wa hd sx b1 b2 (3 : Int32) v4 v3 w_121 hM) (cwV 3 C.1.2.2.2.2 gX8_node_X8_turn rfl rfl rfl hdX8_turn ⟨Nat.le_of_ble_eq_true rfl, Nat.le_of_ble_eq_true rfl⟩) 0 7 rfl rfl FrX.all rfl rfl (Nat.le_of_ble_eq_true rfl) dX8_node_121 ⟨Nat.zero_le _, Nat.zero_le _⟩ ?_
        exact J124 _ hf
set_option maxRecDepth 100000 in
set_option maxHeartbeats 4000000 in
theorem kX8_node (l : Launch) (D : va_G) (cI cJ cZ cN cM : ClassId) (a : Nat → Nat) (w : (Nat → Int32)) (kn : Int32) (kp : Int32) (sd : Int32) (ks : (Nat → Int32)) (bo : (Nat → Int32)) (bi : (Nat → Int32)) (bk : Int32) (ri : (Nat → Int32)) (fm : (Nat → Int32)) (tt : (Nat → Int32)) (le : Int32) (wa : (Nat → Int32)) (hd : (Nat → Int64)) (sx : (Nat → Int32)) (b1 : (Nat → Int64)) (b2 : (Nat → Int64)) (v1 : Int32) (v2 : Int32) (r : Int32) (w_o : (Nat → Int32)) (kn_o : Int32) (hf : fX8_node w kn v1 v2 = some (r, w_o, kn_o)) : MetI l yX8_node wsX8_node rmX8_node D (TYL cI cJ cZ cN cM) [.ref (a 0), .int v1, .int v2] (mW cI cJ cZ cN cM a w kn kp sd ks bo bi bk ri fm tt le wa hd sx b1 b2) (mW cI cJ cZ cN cM a w_o kn_o kp sd ks bo bi bk ri fm tt le wa hd sx b1 b2) r := by
  refine MetI.mk (cc := cX8_node) (maxL := 5) (own := RX8) (ty := .int) [(0, .ref (a 0)), (1, .int v1), (2, .int v2)] (by decide +kernel) rfl rfl (Nat.le_of_ble_eq_true rfl) rfl ?_
  intro p e s m args below meth c A Q C hret
  unfold fX8_node at hf
  refine q_iload_n C 1 dX8_node_0 rfl ?_
  refine q_iconst C 0 dX8_node_1 (by decide) ?_
  refine q_iconst C 1 dX8_node_2 (by decide) ?_
  refine q_aload_n C 0 dX8_node_3 rfl ?_
  refine q_get C 0 0 dX8_node_4 rfl rfl (Nat.le_of_ble_eq_true rfl) inX8_node_X8 lkX8_node_1 rfl rfl ?_
  refine q_iconst C 0 dX8_node_7 (by decide) ?_
  refine q_ialdC C 1 0 dX8_node_8 rfl rfl (by unfold vp_in; decide) (x := (w 0)) rfl ?_
  refine q_ishl C dX8_node_9 ?_
  refine q_iconst C 1 dX8_node_10 (by decide) ?_
  refine q_isub C dX8_node_11 ?_
  obtain ⟨x12, hM, hf⟩ := bd_e hf
  refine q_callSI C (mW cI cJ cZ cN cM a w kn kp sd ks bo bi bk ri fm tt le wa hd sx b1 b2) (kX8_in l D cI cJ cZ cN cM   v1 (0 : Int32) (((1 : Int32) <<< ((w 0) &&& 31)) - (1 : Int32)) x12 hM) (va_cwS 3 C.1.2.2.2.2 gX8_node_X8_in rfl rfl rfl hdX8_in ⟨Nat.le_of_ble_eq_true rfl, Nat.le_of_ble_eq_true rfl⟩) FrX.none rfl rfl (Nat.le_of_ble_eq_true rfl) dX8_node_12 ⟨Nat.zero_le _, Nat.zero_le _⟩ ?_
  refine q_if_ne C 21 dX8_node_15 (by decide) hf (fun hf => ?_) (fun hf => ?_)
  · refine q_iload_n C 2 dX8_node_21 rfl ?_
    refine q_iconst C 0 dX8_node_22 (by decide) ?_
    refine q_ldc C dX8_node_23 lkX8_node_3 ?_
    obtain ⟨x25, hM, hf⟩ := bd_e hf
    refine q_callSI C (mW cI cJ cZ cN cM a w kn kp sd ks bo bi bk ri fm tt le wa hd sx b1 b2) (kX8_in l D cI cJ cZ cN cM   v2 (0 : Int32) (65535 : Int32) x25 hM) (va_cwS 3 C.1.2.2.2.2 gX8_node_X8_in rfl rfl rfl hdX8_in ⟨Nat.le_of_ble_eq_true rfl, Nat.le_of_ble_eq_true rfl⟩) FrX.none rfl rfl (Nat.le_of_ble_eq_true rfl) dX8_node_25 ⟨Nat.zero_le _, Nat.zero_le _⟩ ?_
    refine q_if_ne C 34 dX8_node_28 (by decide) hf (fun hf => ?_) (fun hf => ?_)
    · refine q_aload_n C 0 dX8_node_34 rfl ?_
      refine q_get C 0 0 dX8_node_35 rfl rfl (Nat.le_of_ble_eq_true rfl) inX8_node_X8 lkX8_node_1 rfl rfl ?_
      refine q_iconst C 0 dX8_node_38 (by decide) ?_
      refine q_ialdC C 1 0 dX8_node_39 rfl rfl (by unfold vp_in; decide) (x := (w 0)) rfl ?_
      refine q_bipush C 9 dX8_node_40 (by decide) ?_
      refine q_icmp_ne C 48 dX8_node_42 (by decide) hf (fun hf => ?_) (fun hf => ?_)
      · refine q_aload_n C 0 dX8_node_48 rfl ?_
        obtain ⟨w_49, kn_49, hM, hf⟩ := bd2_e hf
        refine q_callVV C (mW cI cJ cZ cN cM a w_49 kn_49 kp sd ks bo bi bk ri fm tt le wa hd sx b1 b2) (kX8_remember l D cI cJ cZ cN cM a w kn kp sd ks bo bi bk ri fm tt le wa hd sx b1 b2  w_49 kn_49 hM) (cwV 0 C.1.2.2.2.2 gX8_node_X8_remember rfl rfl rfl hdX8_remember ⟨Nat.le_of_ble_eq_true rfl, Nat.le_of_ble_eq_true rfl⟩) 0 7 rfl rfl FrX.all rfl rfl (Nat.le_of_ble_eq_true rfl) dX8_node_49 ⟨Nat.zero_le _, Nat.zero_le _⟩ ?_
        refine q_aload_n C 0 dX8_node_52 rfl ?_
        refine q_get C 0 0 dX8_node_53 rfl rfl (Nat.le_of_ble_eq_true rfl) inX8_node_X8 lkX8_node_1 rfl rfl ?_
        refine q_iconst C 0 dX8_node_56 (by decide) ?_
        refine q_ialdC C 1 0 dX8_node_57 rfl rfl (by unfold vp_in; decide) (x := (w_49 0)) rfl ?_
        refine q_istore_n C [(3, .int (w_49 0)), (0, .ref (a 0)), (1, .int v1), (2, .int v2)] dX8_node_58 (by decide) rfl ?_
        refine q_aload_n C 1 dX8_node_59 rfl ?_
        refine q_get C 0 0 dX8_node_60 rfl rfl (Nat.le_of_ble_eq_true rfl) inX8_node_X8 lkX8_node_1 rfl rfl ?_
        refine q_iconst C 0 dX8_node_63 (by decide) ?_
        refine q_dup2 C dX8_node_64 rfl rfl ?_
        refine q_ialdC C 1 0 dX8_node_65 rfl rfl (by unfold vp_in; decide) (x := (w_49 0)) rfl ?_
        refine q_iconst C 1 dX8_node_66 (by decide) ?_
        refine q_iadd C dX8_node_67 ?_
        refine q_iastC C 1 0 (mW cI cJ cZ cN cM a (upd w_49 0 ((w_49 0) + (1 : Int32))) kn_49 kp sd ks bo bi bk ri fm tt le wa hd sx b1 b2) dX8_node_68 rfl rfl (by unfold vp_in; decide) rfl ?_
        refine q_aload_n C 1 dX8_node_69 rfl ?_
        refine q_get C 0 0 dX8_node_70 rfl rfl (Nat.le_of_ble_eq_true rfl) inX8_node_X8 lkX8_node_1 rfl rfl ?_
        refine q_iconst C 3 dX8_node_73 (by decide) ?_
        refine q_iload_n C 0 dX8_node_74 rfl ?_
        refine q_iadd C dX8_node_75 ?_
        refine q_iconst C 0 dX8_node_76 (by decide) ?_
        refine q_iast C 1 0 (fun w_77 => mW cI cJ cZ cN cM a w_77 kn_49 kp sd ks bo bi bk ri fm tt le wa hd sx b1 b2) dX8_node_77 rfl rfl (fun _ => rfl) hf (fun w_77 hf => ?_)
        refine q_aload_n C 1 dX8_node_78 rfl ?_
        refine q_get C 0 0 dX8_node_79 rfl rfl (Nat.le_of_ble_eq_true rfl) inX8_node_X8 lkX8_node_1 rfl rfl ?_
        refine q_bipush C 12 dX8_node_82 (by decide) ?_
        refine q_iload_n C 0 dX8_node_84 rfl ?_
        refine q_iadd C dX8_node_85 ?_
        refine q_iconst C 0 dX8_node_86 (by decide) ?_
        refine q_iast C 1 0 (fun w_87 => mW cI cJ cZ cN cM a w_87 kn_49 kp sd ks bo bi bk ri fm tt le wa hd sx b1 b2) dX8_node_87 rfl rfl (fun _ => rfl) hf (fun w_87 hf => ?_)
        refine q_aload_n C 1 dX8_node_88 rfl ?_
        refine q_get C 0 0 dX8_node_89 rfl rfl (Nat.le_of_ble_eq_true rfl) inX8_node_X8 lkX8_node_1 rfl rfl ?_
        refine q_bipush C 21 dX8_node_92 (by decide) ?_
        refine q_iload_n C 0 dX8_node_94 rfl ?_
        refine q_iadd C dX8_node_95 ?_
        refine q_iload_n C 3 dX8_node_96 rfl ?_
        refine q_iast C 1 0 (fun w_97 => mW cI cJ cZ cN cM a w_97 kn_49 kp sd ks bo bi bk ri fm tt le wa hd sx b1 b2) dX8_node_97 rfl rfl (fun _ => rfl) hf (fun w_97 hf => ?_)
        refine q_iconst C 0 dX8_node_98 (by decide) ?_
        refine q_istore C [(4, .int (0 : Int32)), (3, .int (w_49 0)), (0, .ref (a 0)), (1, .int v1), (2, .int v2)] dX8_node_99 (by decide) rfl ?_
        obtain ⟨w_101, hL, hf⟩ := bd_e hf
        refine q_lv [(0, .ref (a 0)), (1, .int v1), (3, .int (w_49 0)), (4, .int (0 : Int32))] [2, 3, 1, 0] rfl ?_
        refine wX8_node_L101 C a kn_49 kp sd ks bo bi bk ri fm tt le wa hd sx b1 b2 v1 (w_49 0) w_101 ?_ 300 _ _ hL
        refine q_iload_n C 0 dX8_node_130 rfl ?_
        have hy0 := Option.some.inj hf
        clear hf
        obtain ⟨hz1, hy1⟩ := Prod.mk.inj hy0
        clear hy0
        obtain ⟨hz2, hy2⟩ := Prod.mk.inj hy1
        clear hy1
        subst hz1
        subst hz2
        subst hy2
        exact hret _ _ dX8_node_131 rfl
      · refine q_ldc C dX8_node_45 lkX8_node_5 ?_
        have hy0 := Option.some.inj hf
        clear hf
        obtain ⟨hz1, hy1⟩ := Prod.mk.inj hy0
        clear hy0
        obtain ⟨hz2, hy2⟩ := Prod.mk.inj hy1
        clear hy1
        subst hz1
        subst hz2
        subst hy2
        exact hret _ _ dX8_node_47 rfl
    · refine q_ldc C dX8_node_31 lkX8_node_4 ?_
      have hy0 := Option.some.inj hf
      clear hf
      obtain ⟨hz1, hy1⟩ := Prod.mk.inj hy0
      clear hy0
      obtain ⟨hz2, hy2⟩ := Prod.mk.inj hy1
      clear hy1
      subst hz1
      subst hz2
      subst hy2
      exact hret _ _ dX8_node_33 rfl
  · refine q_ldc C dX8_node_18 lkX8_node_2 ?_
    have hy0 := Option.some.inj hf
    clear hf
    obtain ⟨hz1, hy1⟩ := Prod.mk.inj hy0
    clear hy0
    obtain ⟨hz2, hy2⟩ := Prod.mk.inj hy1
    clear hy1
    subst hz1
    subst hz2
    subst hy2
    exact hret _ _ dX8_node_20 rfl

theorem lkX8_take_1 : Cond.fieldLink RX8 9 "TwiceHeardModel" "w" "[I" ∈ wsX8_take := List.mem_of_getElem? (i := 1) rfl
theorem lkX8_take_2 : Cond.constant RX8 216 (-1000000003) ∈ wsX8_take := List.mem_of_getElem? (i := 2) rfl
theorem inX8_take_X8 : ∀ w ∈ wsX80, w ∈ wsX8_take := fun w h => List.mem_cons_of_mem _ (List.mem_append_right _ h)
abbrev rmX8_take : Room := { frames := 2, cells := 0, slots := 0, locals := 44 }
theorem hdX8_take : yX8_take.cls = RX8 ∧ yX8_take.cls ≠ "java/lang/invoke/MethodHandle" ∧ yX8_take.cls ≠ "java/lang/invoke/VarHandle" ∧ (parseMethodDescriptor yX8_take.desc).map (fun d => d.parameters.length) = some 0 := by decide +kernel
def fX8_take_L36 (v1 : Int32) : Nat → Int32 → (Nat → Int32) → Option ((Nat → Int32))
  | 0, _, _ => none
  | n + 1, v2, w =>
  if v1 ≤ v2 then (
  some w) else (
  (rdI 570 w ((3 : Int32) + v2)).bind fun x49 =>
  (wrI 570 w ((3 : Int32) + v2) (x49 &&& (((1 : Int32) <<< (v1 &&& 31)) ^^^ (-1 : Int32)))).bind fun w_56 =>
  (rdI 570 w_56 ((12 : Int32) + v2)).bind fun x66 =>
  (wrI 570 w_56 ((12 : Int32) + v2) (x66 &&& (((1 : Int32) <<< (v1 &&& 31)) ^^^ (-1 : Int32)))).bind fun w_73 =>
  fX8_take_L36 v1 n (v2 + 1) w_73)
def fX8_take (w : (Nat → Int32)) (kn : Int32)  : Option (Int32 × (Nat → Int32) × Int32) :=
  if (w 0) = (1 : Int32) then (
  some ((-1000000003 : Int32), w, kn)) else (
  bd2 (fX8_remember w kn) fun w_14 kn_14 =>
  (fX8_take_L36 ((upd w_14 0 ((w_14 0) - (1 : Int32))) 0) 300 (0 : Int32) (upd w_14 0 ((w_14 0) - (1 : Int32)))).bind fun w_36 =>
  some ((w_36 0), w_36, kn_14))
set_option maxRecDepth 100000 in
set_option maxHeartbeats 4000000 in
theorem wX8_take_L36 {p : Program} {l : Launch} {e : Env} {s : State} {m : MethodId} {args : Array Value} {below : List Frame} {meth : Method} {c : Code} {Q : State → Prop} {D : va_G} {A : Nat → Prop} {cI cJ cZ cN cM : ClassId} (C : Cx p s m args c cX8_take 3 RX8 wsX8_take D (TYL cI cJ cZ cN cM) A) (a : Nat → Nat) (kn : Int32) (kp : Int32) (sd : Int32) (ks : (Nat → Int32)) (bo : (Nat → Int32)) (bi : (Nat → Int32)) (bk : Int32) (ri : (Nat → Int32)) (fm : (Nat → Int32)) (tt : (Nat → Int32)) (le : Int32) (wa : (Nat → Int32)) (hd : (Nat → Int64)) (sx : (Nat → Int32)) (b1 : (Nat → Int64)) (b2 : (Nat → Int64)) (v1 : Int32) (w_o : (Nat → Int32)) (kk : WW p l e rmX8_take s m args below meth c Q D A 3 0 0 (mW cI cJ cZ cN cM a w_o kn kp sd ks bo bi bk ri fm tt le wa hd sx b1 b2) [(0, .ref (a 0))] 80 []) : ∀ (n : Nat) (v2 : Int32) (w : (Nat → Int32)), fX8_take_L36 v1 n v2 w = some w_o → WW p l e rmX8_take s m args below meth c Q D A 3 0 0 (mW cI cJ cZ cN cM a w kn kp sd ks bo bi bk ri fm tt le wa hd sx b1 b2) [(0, .ref (a 0)), (1, .int v1), (2, .int v2)] 36 [] := by
  intro n
  induction n with
  | zero =>
    intro v2 w hf
    rw [fX8_take_L36] at hf
    cases hf
  | succ n ih =>
    intro v2 w hf
    rw [fX8_take_L36] at hf
    refine q_iload_n C 2 dX8_take_36 rfl ?_
    refine q_iload_n C 1 dX8_take_37 rfl ?_
    refine q_icmp_ge C 80 dX8_take_38 (by decide) hf (fun hf => ?_) (fun hf => ?_)
    · refine q_lv [(0, .ref (a 0))] [0] rfl ?_
      have hz1 := Option.some.inj hf
      clear hf
      subst hz1
      exact kk
    · refine q_aload_n C 0 dX8_take_41 rfl ?_
      refine q_get C 0 0 dX8_take_42 rfl rfl (Nat.le_of_ble_eq_true rfl) inX8_take_X8 lkX8_take_1 rfl rfl ?_
      refine q_iconst C 3 dX8_take_45 (by decide) ?_
      refine q_iload_n C 2 dX8_take_46 rfl ?_
      refine q_iadd C dX8_take_47 ?_
      refine q_dup2 C dX8_take_48 rfl rfl ?_
      refine q_iald C 1 0 dX8_take_49 rfl rfl hf (fun x49 hf => ?_)
      refine q_iconst C 1 dX8_take_50 (by decide) ?_
      refine q_iload_n C 1 dX8_take_51 rfl ?_
      refine q_ishl C dX8_take_52 ?_
      refine q_iconst C (-1) dX8_take_53 (by decide) ?_
      refine q_ixor C dX8_take_54 ?_
      refine q_iand C dX8_take_55 ?_
      refine q_iast C 1 0 (fun w_56 => mW cI cJ cZ cN cM a w_56 kn kp sd ks bo bi bk ri fm tt le wa hd sx b1 b2) dX8_take_56 rfl rfl (fun _ => rfl) hf (fun w_56 hf => ?_)
      refine q_aload_n C 0 dX8_take_57 rfl ?_
      refine q_get C 0 0 dX8_take_58 rfl rfl (Nat.le_of_ble_eq_true rfl) inX8_take_X8 lkX8_take_1 rfl rfl ?_
      refine q_bipush C 12 dX8_take_61 (by decide) ?_
      refine q_iload_n C 2 dX8_take_63 rfl ?_
      refine q_iadd C dX8_take_64 ?_
      refine q_dup2 C dX8_take_65 rfl rfl ?_
      refine q_iald C 1 0 dX8_take_66 rfl rfl hf (fun x66 hf => ?_)
      refine q_iconst C 1 dX8_take_67 (by decide) ?_
      refine q_iload_n C 1 dX8_take_68 rfl ?_
      refine q_ishl C dX8_take_69 ?_
      refine q_iconst C (-1) dX8_take_70 (by decide) ?_
      refine q_ixor C dX8_take_71 ?_
      refine q_iand C dX8_take_72 ?_
      refine q_iast C 1 0 (fun w_73 => mW cI cJ cZ cN cM a w_73 kn kp sd ks bo bi bk ri fm tt le wa hd sx b1 b2) dX8_take_73 rfl rfl (fun _ => rfl) hf (fun w_73 hf => ?_)
      refine q_iinc C (v2 + 1) 2 [(2, .int (v2 + 1)), (0, .ref (a 0)), (1, .int v1)] dX8_take_74 rfl rfl (by decide) rfl ?_
      refine q_goto C 36 dX8_take_77 (by decide) ?_
      refine q_lv [(0, .ref (a 0)), (1, .int v1), (2, .int (v2 + 1))] [1, 2, 0] rfl ?_
      exact ih _ _ hf
set_option maxRecDepth 100000 in
set_option maxHeartbeats 4000000 in
theorem kX8_take (l : Launch) (D : va_G) (cI cJ cZ cN cM : ClassId) (a : Nat → Nat) (w : (Nat → Int32)) (kn : Int32) (kp : Int32) (sd : Int32) (ks : (Nat → Int32)) (bo : (Nat → Int32)) (bi : (Nat → Int32)) (bk : Int32) (ri : (Nat → Int32)) (fm : (Nat → Int32)) (tt : (Nat → Int32)) (le : Int32) (wa : (Nat → Int32)) (hd : (Nat → Int64)) (sx : (Nat → Int32)) (b1 : (Nat → Int64)) (b2 : (Nat → Int64))  (r : Int32) (w_o : (Nat → Int32)) (kn_o : Int32) (hf : fX8_take w kn = some (r, w_o, kn_o)) : MetI l yX8_take wsX8_take rmX8_take D (TYL cI cJ cZ cN cM) [.ref (a 0)] (mW cI cJ cZ cN cM a w kn kp sd ks bo bi bk ri fm tt le wa hd sx b1 b2) (mW cI cJ cZ cN cM a w_o kn_o kp sd ks bo bi bk ri fm tt le wa hd sx b1 b2) r := by
  refine MetI.mk (cc := cX8_take) (maxL := 3) (own := RX8) (ty := .int) [(0, .ref (a 0))] (by decide +kernel) rfl rfl (Nat.le_of_ble_eq_true rfl) rfl ?_
  intro p e s m args below meth c A Q C hret
  unfold fX8_take at hf
  refine q_aload_n C 0 dX8_take_0 rfl ?_
  refine q_get C 0 0 dX8_take_1 rfl rfl (Nat.le_of_ble_eq_true rfl) inX8_take_X8 lkX8_take_1 rfl rfl ?_
  refine q_iconst C 0 dX8_take_4 (by decide) ?_
  refine q_ialdC C 1 0 dX8_take_5 rfl rfl (by unfold vp_in; decide) (x := (w 0)) rfl ?_
  refine q_iconst C 1 dX8_take_6 (by decide) ?_
  refine q_icmp_ne C 13 dX8_take_7 (by decide) hf (fun hf => ?_) (fun hf => ?_)
  · refine q_aload_n C 0 dX8_take_13 rfl ?_
    obtain ⟨w_14, kn_14, hM, hf⟩ := bd2_e hf
    refine q_callVV C (mW cI cJ cZ cN cM a w_14 kn_14 kp sd ks bo bi bk ri fm tt le wa hd sx b1 b2) (kX8_remember l D cI cJ cZ cN cM a w kn kp sd ks bo bi bk ri fm tt le wa hd sx b1 b2  w_14 kn_14 hM) (cwV 0 C.1.2.2.2.2 gX8_take_X8_remember rfl rfl rfl hdX8_remember ⟨Nat.le_of_ble_eq_true rfl, Nat.le_of_ble_eq_true rfl⟩) 0 7 rfl rfl FrX.all rfl rfl (Nat.le_of_ble_eq_true rfl) dX8_take_14 ⟨Nat.zero_le _, Nat.zero_le _⟩ ?_
    refine q_aload_n C 0 dX8_take_17 rfl ?_
    refine q_get C 0 0 dX8_take_18 rfl rfl (Nat.le_of_ble_eq_true rfl) inX8_take_X8 lkX8_take_1 rfl rfl ?_
    refine q_iconst C 0 dX8_take_21 (by decide) ?_
    refine q_dup2 C dX8_take_22 rfl rfl ?_
    refine q_ialdC C 1 0 dX8_take_23 rfl rfl (by unfold vp_in; decide) (x := (w_14 0)) rfl ?_
    refine q_iconst C 1 dX8_take_24 (by decide) ?_
    refine q_isub C dX8_take_25 ?_
    refine q_iastC C 1 0 (mW cI cJ cZ cN cM a (upd w_14 0 ((w_14 0) - (1 : Int32))) kn_14 kp sd ks bo bi bk ri fm tt le wa hd sx b1 b2) dX8_take_26 rfl rfl (by unfold vp_in; decide) rfl ?_
    refine q_aload_n C 0 dX8_take_27 rfl ?_
    refine q_get C 0 0 dX8_take_28 rfl rfl (Nat.le_of_ble_eq_true rfl) inX8_take_X8 lkX8_take_1 rfl rfl ?_
    refine q_iconst C 0 dX8_take_31 (by decide) ?_
    refine q_ialdC C 1 0 dX8_take_32 rfl rfl (by unfold vp_in; decide) (x := ((upd w_14 0 ((w_14 0) - (1 : Int32))) 0)) rfl ?_
    refine q_istore_n C [(1, .int ((upd w_14 0 ((w_14 0) - (1 : Int32))) 0)), (0, .ref (a 0))] dX8_take_33 (by decide) rfl ?_
    refine q_iconst C 0 dX8_take_34 (by decide) ?_
    refine q_istore_n C [(2, .int (0 : Int32)), (1, .int ((upd w_14 0 ((w_14 0) - (1 : Int32))) 0)), (0, .ref (a 0))] dX8_take_35 (by decide) rfl ?_
    obtain ⟨w_36, hL, hf⟩ := bd_e hf
    refine q_lv [(0, .ref (a 0)), (1, .int ((upd w_14 0 ((w_14 0) - (1 : Int32))) 0)), (2, .int (0 : Int32))] [2, 1, 0] rfl ?_
    refine wX8_take_L36 C a kn_14 kp sd ks bo bi bk ri fm tt le wa hd sx b1 b2 ((upd w_14 0 ((w_14 0) - (1 : Int32))) 0) w_36 ?_ 300 _ _ hL
    refine q_aload_n C 0 dX8_take_80 rfl ?_
    refine q_get C 0 0 dX8_take_81 rfl rfl (Nat.le_of_ble_eq_true rfl) inX8_take_X8 lkX8_take_1 rfl rfl ?_
    refine q_iconst C 0 dX8_take_84 (by decide) ?_
    refine q_ialdC C 1 0 dX8_take_85 rfl rfl (by unfold vp_in; decide) (x := (w_36 0)) rfl ?_
    have hy0 := Option.some.inj hf
    clear hf
    obtain ⟨hz1, hy1⟩ := Prod.mk.inj hy0
    clear hy0
    obtain ⟨hz2, hy2⟩ := Prod.mk.inj hy1
    clear hy1
    subst hz1
    subst hz2
    subst hy2
    exact hret _ _ dX8_take_86 rfl
  · refine q_ldc C dX8_take_10 lkX8_take_2 ?_
    have hy0 := Option.some.inj hf
    clear hf
    obtain ⟨hz1, hy1⟩ := Prod.mk.inj hy0
    clear hy0
    obtain ⟨hz2, hy2⟩ := Prod.mk.inj hy1
    clear hy1
    subst hz1
    subst hz2
    subst hy2
    exact hret _ _ dX8_take_12 rfl

theorem lkX8_link_1 : Cond.constant RX8 180 (-1000000001) ∈ wsX8_link := List.mem_of_getElem? (i := 1) rfl
theorem lkX8_link_2 : Cond.fieldLink RX8 9 "TwiceHeardModel" "w" "[I" ∈ wsX8_link := List.mem_of_getElem? (i := 2) rfl
theorem inX8_link_X8 : ∀ w ∈ wsX80, w ∈ wsX8_link := fun w h => List.mem_cons_of_mem _ (List.mem_append_right _ h)
abbrev rmX8_link : Room := { frames := 2, cells := 0, slots := 0, locals := 44 }
theorem hdX8_link : yX8_link.cls = RX8 ∧ yX8_link.cls ≠ "java/lang/invoke/MethodHandle" ∧ yX8_link.cls ≠ "java/lang/invoke/VarHandle" ∧ (parseMethodDescriptor yX8_link.desc).map (fun d => d.parameters.length) = some 2 := by decide +kernel
def fX8_link (w : (Nat → Int32)) (kn : Int32) (v1 : Int32) (v2 : Int32) : Option (Int32 × (Nat → Int32) × Int32) :=
  (fX8_isNode w v1).bind fun x2 =>
  jn0 (
  some ((-1000000001 : Int32), w, kn)) fun k21 =>
  if x2 = 0 then (
  k21) else (
  (fX8_isNode w v2).bind fun x10 =>
  if x10 = 0 then (
  k21) else (
  if v1 = v2 then (
  k21) else (
  bd2 (fX8_remember w kn) fun w_25 kn_25 =>
  (rdI 570 w_25 ((12 : Int32) + v1)).bind fun x36 =>
  (fX8_has x36 v2).bind fun x38 =>
  jn1 (fun (w_52 : (Nat → Int32)) => 
  (fX8_turn w_52 (3 : Int32) v1 v2).bind fun w_56 =>
  (rdI 570 w_56 ((3 : Int32) + v1)).bind fun x66 =>
  (fX8_has x66 v2).bind fun x68 =>
  if x68 = 0 then (
  some ((0 : Int32), w_56, kn_25)) else (
  some ((1 : Int32), w_56, kn_25))) fun k52 =>
  if x38 = 0 then (
  k52 w_25) else (
  (fX8_turn w_25 (12 : Int32) v1 v2).bind fun w_49 =>
  k52 w_49))))
set_option maxRecDepth 100000 in
set_option maxHeartbeats 4000000 in
theorem kX8_link (l : Launch) (D : va_G) (cI cJ cZ cN cM : ClassId) (a : Nat → Nat) (w : (Nat → Int32)) (kn : Int32) (kp : Int32) (sd : Int32) (ks : (Nat → Int32)) (bo : (Nat → Int32)) (bi : (Nat → Int32)) (bk : Int32) (ri : (Nat → Int32)) (fm : (Nat → Int32)) (tt : (Nat → Int32)) (le : Int32) (wa : (Nat → Int32)) (hd : (Nat → Int64)) (sx : (Nat → Int32)) (b1 : (Nat → Int64)) (b2 : (Nat → Int64)) (v1 : Int32) (v2 : Int32) (r : Int32) (w_o : (Nat → Int32)) (kn_o : Int32) (hf : fX8_link w kn v1 v2 = some (r, w_o, kn_o)) : MetI l yX8_link wsX8_link rmX8_link D (TYL cI cJ cZ cN cM) [.ref (a 0), .int v1, .int v2] (mW cI cJ cZ cN cM a w kn kp sd ks bo bi bk ri fm tt le wa hd sx b1 b2) (mW cI cJ cZ cN cM a w_o kn_o kp sd ks bo bi bk ri fm tt le wa hd sx b1 b2) r := by
  refine MetI.mk (cc := cX8_link) (maxL := 3) (own := RX8) (ty := .int) [(0, .ref (a 0)), (1, .int v1), (2, .int v2)] (by decide +kernel) rfl rfl (Nat.le_of_ble_eq_true rfl) rfl ?_
  intro p e s m args below meth c A Q C hret
  unfold fX8_link at hf
  refine q_aload_n C 0 dX8_link_0 rfl ?_
  refine q_iload_n C 1 dX8_link_1 rfl ?_
  obtain ⟨x2, hM, hf⟩ := bd_e hf
  refine q_callVI C (mW cI cJ cZ cN cM a w kn kp sd ks bo bi bk ri fm tt le wa hd sx b1 b2) (kX8_isNode l D cI cJ cZ cN cM a w kn kp sd ks bo bi bk ri fm tt le wa hd sx b1 b2 v1 x2 hM) (cwV 1 C.1.2.2.2.2 gX8_link_X8_isNode rfl rfl rfl hdX8_isNode ⟨Nat.le_of_ble_eq_true rfl, Nat.le_of_ble_eq_true rfl⟩) 0 7 rfl rfl FrX.all rfl rfl (Nat.le_of_ble_eq_true rfl) dX8_link_2 ⟨Nat.zero_le _, Nat.zero_le _⟩ ?_
  refine jn0_e (WW p l e rmX8_link s m args below meth c Q D A 3 0 0 (mW cI cJ cZ cN cM a w kn kp sd ks bo bi bk ri fm tt le wa hd sx b1 b2) [] 21 []) hf ?_ ?_
  · intro hf
    refine q_ldc C dX8_link_21 lkX8_link_1 ?_
    have hy0 := Option.some.inj hf
    clear hf
    obtain ⟨hz1, hy1⟩ := Prod.mk.inj hy0
    clear hy0
    obtain ⟨hz2, hy2⟩ := Prod.mk.inj hy1
    clear hy1
    subst hz1
    subst hz2
    subst hy2
    exact hret _ _ dX8_link_23 rfl
  intro k21 J21 hf
  refine q_if_eq C 21 dX8_link_5 (by decide) hf (fun hf => ?_) (fun hf => ?_)
  · refine q_lv [] [] rfl ?_
    exact J21  hf
  · refine q_aload_n C 0 dX8_link_8 rfl ?_
    refine q_iload_n C 2 dX8_link_9 rfl ?_
    obtain ⟨x10, hM, hf⟩ := bd_e hf
    refine q_callVI C (mW cI cJ cZ cN cM a w kn kp sd ks bo bi bk ri fm tt le wa hd sx b1 b2) (kX8_isNode l D cI cJ cZ cN cM a w kn kp sd ks bo bi bk ri fm tt le wa hd sx b1 b2 v2 x10 hM) (cwV 1 C.1.2.2.2.2 gX8_link_X8_isNode rfl rfl rfl hdX8_isNode ⟨Nat.le_of_ble_eq_true rfl, Nat.le_of_ble_eq_true rfl⟩) 0 7 rfl rfl FrX.all rfl rfl (Nat.le_of_ble_eq_true rfl) dX8_link_10 ⟨Nat.zero_le _, Nat.zero_le _⟩ ?_
    refine q_if_eq C 21 dX8_link_13 (by decide) hf (fun hf => ?_) (fun hf => ?_)
    · refine q_lv [] [] rfl ?_
      exact J21  hf
    · refine q_iload_n C 1 dX8_link_16 rfl ?_
      refine q_iload_n C 2 dX8_link_17 rfl ?_
      refine q_icmp_ne C 24 dX8_link_18 (by decide) hf (fun hf => ?_) (fun hf => ?_)
      · refine q_aload_n C 0 dX8_link_24 rfl ?_
        obtain ⟨w_25, kn_25, hM, hf⟩ := bd2_e hf
        refine q_callVV C (mW cI cJ cZ cN cM a w_25 kn_25 kp sd ks bo bi bk ri fm tt le wa hd sx b1 b2) (kX8_remember l D cI cJ cZ cN cM a w kn kp sd ks bo bi bk ri fm tt le wa hd sx b1 b2  w_25 kn_25 hM) (cwV 0 C.1.2.2.2.2 gX8_link_X8_remember rfl rfl rfl hdX8_remember ⟨Nat.le_of_ble_eq_true rfl, Nat.le_of_ble_eq_true rfl⟩) 0 7 rfl rfl FrX.all rfl rfl (Nat.le_of_ble_eq_true rfl) dX8_link_25 ⟨Nat.zero_le _, Nat.zero_le _⟩ ?_
        refine q_aload_n C 0 dX8_link_28 rfl ?_
        refine q_get C 0 0 dX8_link_29 rfl rfl (Nat.le_of_ble_eq_true rfl) inX8_link_X8 lkX8_link_2 rfl rfl ?_
        refine q_bipush C 12 dX8_link_32 (by decide) ?_
        refine q_iload_n C 1 dX8_link_34 rfl ?_
        refine q_iadd C dX8_link_35 ?_
        refine q_iald C 1 0 dX8_link_36 rfl rfl hf (fun x36 hf => ?_)
        refine q_iload_n C 2 dX8_link_37 rfl ?_
        obtain ⟨x38, hM, hf⟩ := bd_e hf
        refine q_callSI C (mW cI cJ cZ cN cM a w_25 kn_25 kp sd ks bo bi bk ri fm tt le wa hd sx b1 b2) (kX8_has l D cI cJ cZ cN cM   x36 v2 x38 hM) (va_cwS 2 C.1.2.2.2.2 gX8_link_X8_has rfl rfl rfl hdX8_has ⟨Nat.le_of_ble_eq_true rfl, Nat.le_of_ble_eq_true rfl⟩) FrX.none rfl rfl (Nat.le_of_ble_eq_true rfl) dX8_link_38 ⟨Nat.zero_le _, Nat.zero_le _⟩ ?_
        refine jn1_e (fun (w_52 : (Nat → Int32)) => WW p l e rmX8_link s m args below meth c Q D A 3 0 0 (mW cI cJ cZ cN cM a w_52 kn_25 kp sd ks bo bi bk ri fm tt le wa hd sx b1 b2) [(0, .ref (a 0)), (1, .int v1), (2, .int v2)] 52 []) hf ?_ ?_
        · intro w_52 hf
          refine q_aload_n C 0 dX8_link_52 rfl ?_
          refine q_iconst C 3 dX8_link_53 (by decide) ?_
          refine q_iload_n C 1 dX8_link_54 rfl ?_
          refine q_iload_n C 2 dX8_link_55 rfl ?_
          obtain ⟨w_56, hM, hf⟩ := bd_e hf
          refine q_callVV C (mW cI cJ cZ cN cM a w_56 kn_25 kp sd ks bo bi bk ri fm tt le wa hd sx b1 b2) (kX8_turn l D cI cJ cZ cN cM a w_52 kn_25 kp sd ks bo bi bk ri fm tt le wa hd sx b1 b2 (3 : Int32) v1 v2 w_56 hM) (cwV 3 C.1.2.2.2.2 gX8_link_X8_turn rfl rfl rfl hdX8_turn ⟨Nat.le_of_ble_eq_true rfl, Nat.le_of_ble_eq_true rfl⟩) 0 7 rfl rfl FrX.all rfl rfl (Nat.le_of_ble_eq_true rfl) dX8_link_56 ⟨Nat.zero_le _, Nat.zero_le _⟩ ?_
          refine q_aload_n C 0 dX8_link_59 rfl ?_
          refine q_get C 0 0 dX8_link_60 rfl rfl (Nat.le_of_ble_eq_true rfl) inX8_link_X8 lkX8_link_2 rfl rfl ?_
          refine q_iconst C 3 dX8_link_63 (by decide) ?_
          refine q_iload_n C 1 dX8_link_64 rfl ?_
          refine q_iadd C dX8_link_65 ?_
          refine q_iald C 1 0 dX8_link_66 rfl rfl hf (fun x66 hf => ?_)
          refine q_iload_n C 2 dX8_link_67 rfl ?_
          obtain ⟨x68, hM, hf⟩ := bd_e hf
          refine q_callSI C (mW cI cJ cZ cN cM a w_56 kn_25 kp sd ks bo bi bk ri fm tt le wa hd sx b1 b2) (kX8_has l D cI cJ cZ cN cM   x66 v2 x68 hM) (va_cwS 2 C.1.2.2.2.2 gX8_link_X8_has rfl rfl rfl hdX8_has ⟨Nat.le_of_ble_eq_true rfl, Nat.le_of_ble_eq_true rfl⟩) FrX.none rfl rfl (Nat.le_of_ble_eq_true rfl) dX8_link_68 ⟨Nat.zero_le _, Nat.zero_le _⟩ ?_
          refine q_if_eq C 78 dX8_link_71 (by decide) hf (fun hf => ?_) (fun hf => ?_)
          · refine q_iconst C 0 dX8_link_78 (by decide) ?_
            have hy0 := Option.some.inj hf
            clear hf
            obtain ⟨hz1, hy1⟩ := Prod.mk.inj hy0
            clear hy0
            obtain ⟨hz2, hy2⟩ := Prod.mk.inj hy1
            clear hy1
            subst hz1
            subst hz2
            subst hy2
            exact hret _ _ dX8_link_79 rfl
          · refine q_iconst C 1 dX8_link_74 (by decide) ?_
            refine q_goto C 79 dX8_link_75 (by decide) ?_
            have hy0 := Option.some.inj hf
            clear hf
            obtain ⟨hz1, hy1⟩ := Prod.mk.inj hy0
            clear hy0
            obtain ⟨hz2, hy2⟩ := Prod.mk.inj hy1
            clear hy1
            subst hz1
            subst hz2
            subst hy2
            exact hret _ _ dX8_link_79 rfl
        intro k52 J52 hf
        refine q_if_eq C 52 dX8_link_41 (by decide) hf (fun hf => ?_) (fun hf => ?_)
        · exact J52 _ hf
        · refine q_aload_n C 0 dX8_link_44 rfl ?_
          refine q_bipush C 12 dX8_link_45 (by decide) ?_
          refine q_iload_n C 1 dX8_link_47 rfl ?_
          refine q_iload_n C 2 dX8_link_48 rfl ?_
          obtain ⟨w_49, hM, hf⟩ := bd_e hf
          refine q_callVV C (mW cI cJ cZ cN cM a w_49 kn_25 kp sd ks bo bi bk ri fm tt le wa hd sx b1 b2) (kX8_turn l D cI cJ cZ cN cM a w_25 kn_25 kp sd ks bo bi bk ri fm tt le wa hd sx b1 b2 (12 : Int32) v1 v2 w_49 hM) (cwV 3 C.1.2.2.2.2 gX8_link_X8_turn rfl rfl rfl hdX8_turn ⟨Nat.le_of_ble_eq_true rfl, Nat.le_of_ble_eq_true rfl⟩) 0 7 rfl rfl FrX.all rfl rfl (Nat.le_of_ble_eq_true rfl) dX8_link_49 ⟨Nat.zero_le _, Nat.zero_le _⟩ ?_
          exact J52 _ hf
      · refine q_lv [] [] rfl ?_
        exact J21  hf

theorem lkX8_lose_1 : Cond.constant RX8 180 (-1000000001) ∈ wsX8_lose := List.mem_of_getElem? (i := 1) rfl
theorem lkX8_lose_2 : Cond.fieldLink RX8 9 "TwiceHeardModel" "w" "[I" ∈ wsX8_lose := List.mem_of_getElem? (i := 2) rfl
theorem inX8_lose_X8 : ∀ w ∈ wsX80, w ∈ wsX8_lose := fun w h => List.mem_cons_of_mem _ (List.mem_append_right _ h)
abbrev rmX8_lose : Room := { frames := 3, cells := 0, slots := 0, locals := 65 }
theorem hdX8_lose : yX8_lose.cls = RX8 ∧ yX8_lose.cls ≠ "java/lang/invoke/MethodHandle" ∧ yX8_lose.cls ≠ "java/lang/invoke/VarHandle" ∧ (parseMethodDescriptor yX8_lose.desc).map (fun d => d.parameters.length) = some 2 := by decide +kernel
def fX8_lose (w : (Nat → Int32)) (kn : Int32) (v1 : Int32) (v2 : Int32) : Option (Int32 × (Nat → Int32) × Int32) :=
  (fX8_isLinked w v1 v2).bind fun x3 =>
  if x3 = 0 then (
  some ((-1000000001 : Int32), w, kn)) else (
  bd2 (fX8_remember w kn) fun w_13 kn_13 =>
  (fX8_turn w_13 (12 : Int32) v1 v2).bind fun w_21 =>
  (rdI 570 w_21 ((12 : Int32) + v1)).bind fun x32 =>
  (fX8_has x32 v2).bind fun x34 =>
  if x34 = 0 then (
  some ((0 : Int32), w_21, kn_13)) else (
  some ((1 : Int32), w_21, kn_13)))
set_option maxRecDepth 100000 in
set_option maxHeartbeats 4000000 in
theorem kX8_lose (l : Launch) (D : va_G) (cI cJ cZ cN cM : ClassId) (a : Nat → Nat) (w : (Nat → Int32)) (kn : Int32) (kp : Int32) (sd : Int32) (ks : (Nat → Int32)) (bo : (Nat → Int32)) (bi : (Nat → Int32)) (bk : Int32) (ri : (Nat → Int32)) (fm : (Nat → Int32)) (tt : (Nat → Int32)) (le : Int32) (wa : (Nat → Int32)) (hd : (Nat → Int64)) (sx : (Nat → Int32)) (b1 : (Nat → Int64)) (b2 : (Nat → Int64)) (v1 : Int32) (v2 : Int32) (r : Int32) (w_o : (Nat → Int32)) (kn_o : Int32) (hf : fX8_lose w kn v1 v2 = some (r, w_o, kn_o)) : MetI l yX8_lose wsX8_lose rmX8_lose D (TYL cI cJ cZ cN cM) [.ref (a 0), .int v1, .int v2] (mW cI cJ cZ cN cM a w kn kp sd ks bo bi bk ri fm tt le wa hd sx b1 b2) (mW cI cJ cZ cN cM a w_o kn_o kp sd ks bo bi bk ri fm tt le wa hd sx b1 b2) r := by
  refine MetI.mk (cc := cX8_lose) (maxL := 3) (own := RX8) (ty := .int) [(0, .ref (a 0)), (1, .int v1), (2, .int v2)] (by decide +kernel) rfl rfl (Nat.le_of_ble_eq_true rfl) rfl ?_
  intro p e s m args below meth c A Q C hret
  unfold fX8_lose at hf
  refine q_aload_n C 0 dX8_lose_0 rfl ?_
  refine q_iload_n C 1 dX8_lose_1 rfl ?_
  refine q_iload_n C 2 dX8_lose_2 rfl ?_
  obtain ⟨x3, hM, hf⟩ := bd_e hf
  refine q_callVI C (mW cI cJ cZ cN cM a w kn kp sd ks bo bi bk ri fm tt le wa hd sx b1 b2) (kX8_isLinked l D cI cJ cZ cN cM a w kn kp sd ks bo bi bk ri fm tt le wa hd sx b1 b2 v1 v2 x3 hM) (cwV 2 C.1.2.2.2.2 gX8_lose_X8_isLinked rfl rfl rfl hdX8_isLinked ⟨Nat.le_of_ble_eq_true rfl, Nat.le_of_ble_eq_true rfl⟩) 0 7 rfl rfl FrX.all rfl rfl (Nat.le_of_ble_eq_true rfl) dX8_lose_3 ⟨Nat.zero_le _, Nat.zero_le _⟩ ?_
  refine q_if_ne C 12 dX8_lose_6 (by decide) hf (fun hf => ?_) (fun hf => ?_)
  · refine q_aload_n C 0 dX8_lose_12 rfl ?_
    obtain ⟨w_13, kn_13, hM, hf⟩ := bd2_e hf
    refine q_callVV C (mW cI cJ cZ cN cM a w_13 kn_13 kp sd ks bo bi bk ri fm tt le wa hd sx b1 b2) (kX8_remember l D cI cJ cZ cN cM a w kn kp sd ks bo bi bk ri fm tt le wa hd sx b1 b2  w_13 kn_13 hM) (cwV 0 C.1.2.2.2.2 gX8_lose_X8_remember rfl rfl rfl hdX8_remember ⟨Nat.le_of_ble_eq_true rfl, Nat.le_of_ble_eq_true rfl⟩) 0 7 rfl rfl FrX.all rfl rfl (Nat.le_of_ble_eq_true rfl) dX8_lose_13 ⟨Nat.zero_le _, Nat.zero_le _⟩ ?_
    refine q_aload_n C 0 dX8_lose_16 rfl ?_
    refine q_bipush C 12 dX8_lose_17 (by decide) ?_
    refine q_iload_n C 1 dX8_lose_19 rfl ?_
    refine q_iload_n C 2 dX8_lose_20 rfl ?_
    obtain ⟨w_21, hM, hf⟩ := bd_e hf
    refine q_callVV C (mW cI cJ cZ cN cM a w_21 kn_13 kp sd ks bo bi bk ri fm tt le wa hd sx b1 b2) (kX8_turn l D cI cJ cZ cN cM a w_13 kn_13 kp sd ks bo bi bk ri fm tt le wa hd sx b1 b2 (12 : Int32) v1 v2 w_21 hM) (cwV 3 C.1.2.2.2.2 gX8_lose_X8_turn rfl rfl rfl hdX8_turn ⟨Nat.le_of_ble_eq_true rfl, Nat.le_of_ble_eq_true rfl⟩) 0 7 rfl rfl FrX.all rfl rfl (Nat.le_of_ble_eq_true rfl) dX8_lose_21 ⟨Nat.zero_le _, Nat.zero_le _⟩ ?_
    refine q_aload_n C 0 dX8_lose_24 rfl ?_
    refine q_get C 0 0 dX8_lose_25 rfl rfl (Nat.le_of_ble_eq_true rfl) inX8_lose_X8 lkX8_lose_2 rfl rfl ?_
    refine q_bipush C 12 dX8_lose_28 (by decide) ?_
    refine q_iload_n C 1 dX8_lose_30 rfl ?_
    refine q_iadd C dX8_lose_31 ?_
    refine q_iald C 1 0 dX8_lose_32 rfl rfl hf (fun x32 hf => ?_)
    refine q_iload_n C 2 dX8_lose_33 rfl ?_
    obtain ⟨x34, hM, hf⟩ := bd_e hf
    refine q_callSI C (mW cI cJ cZ cN cM a w_21 kn_13 kp sd ks bo bi bk ri fm tt le wa hd sx b1 b2) (kX8_has l D cI cJ cZ cN cM   x32 v2 x34 hM) (va_cwS 2 C.1.2.2.2.2 gX8_lose_X8_has rfl rfl rfl hdX8_has ⟨Nat.le_of_ble_eq_true rfl, Nat.le_of_ble_eq_true rfl⟩) FrX.none rfl rfl (Nat.le_of_ble_eq_true rfl) dX8_lose_34 ⟨Nat.zero_le _, Nat.zero_le _⟩ ?_
    refine q_if_eq C 44 dX8_lose_37 (by decide) hf (fun hf => ?_) (fun hf => ?_)
    · refine q_iconst C 0 dX8_lose_44 (by decide) ?_
      have hy0 := Option.some.inj hf
      clear hf
      obtain ⟨hz1, hy1⟩ := Prod.mk.inj hy0
      clear hy0
      obtain ⟨hz2, hy2⟩ := Prod.mk.inj hy1
      clear hy1
      subst hz1
      subst hz2
      subst hy2
      exact hret _ _ dX8_lose_45 rfl
    · refine q_iconst C 1 dX8_lose_40 (by decide) ?_
      refine q_goto C 45 dX8_lose_41 (by decide) ?_
      have hy0 := Option.some.inj hf
      clear hf
      obtain ⟨hz1, hy1⟩ := Prod.mk.inj hy0
      clear hy0
      obtain ⟨hz2, hy2⟩ := Prod.mk.inj hy1
      clear hy1
      subst hz1
      subst hz2
      subst hy2
      exact hret _ _ dX8_lose_45 rfl
  · refine q_ldc C dX8_lose_9 lkX8_lose_1 ?_
    have hy0 := Option.some.inj hf
    clear hf
    obtain ⟨hz1, hy1⟩ := Prod.mk.inj hy0
    clear hy0
    obtain ⟨hz2, hy2⟩ := Prod.mk.inj hy1
    clear hy1
    subst hz1
    subst hz2
    subst hy2
    exact hret _ _ dX8_lose_11 rfl

theorem lkX8_hear_1 : Cond.constant RX8 180 (-1000000001) ∈ wsX8_hear := List.mem_of_getElem? (i := 1) rfl
theorem lkX8_hear_2 : Cond.constant RX8 210 (65535) ∈ wsX8_hear := List.mem_of_getElem? (i := 2) rfl
theorem lkX8_hear_3 : Cond.constant RX8 179 (-1000000002) ∈ wsX8_hear := List.mem_of_getElem? (i := 3) rfl
theorem inX8_hear_X8 : ∀ w ∈ wsX80, w ∈ wsX8_hear := fun w h => List.mem_cons_of_mem _ (List.mem_append_right _ h)
abbrev rmX8_hear : Room := { frames := 3, cells := 0, slots := 0, locals := 67 }
theorem hdX8_hear : yX8_hear.cls = RX8 ∧ yX8_hear.cls ≠ "java/lang/invoke/MethodHandle" ∧ yX8_hear.cls ≠ "java/lang/invoke/VarHandle" ∧ (parseMethodDescriptor yX8_hear.desc).map (fun d => d.parameters.length) = some 2 := by decide +kernel
def fX8_hear (w : (Nat → Int32)) (kn : Int32) (v1 : Int32) (v2 : Int32) : Option (Int32 × (Nat → Int32) × Int32) :=
  (fX8_isNode w v1).bind fun x2 =>
  if x2 = 0 then (
  some ((-1000000001 : Int32), w, kn)) else (
  (fX8_in v2 (0 : Int32) (65535 : Int32)).bind fun x15 =>
  if x15 = 0 then (
  some ((-1000000002 : Int32), w, kn)) else (
  bd3 (fX8_put w kn ((21 : Int32) + v1) v2) fun x27 w_27 kn_27 =>
  some (x27, w_27, kn_27)))
set_option maxRecDepth 100000 in
set_option maxHeartbeats 4000000 in
theorem kX8_hear (l : Launch) (D : va_G) (cI cJ cZ cN cM : ClassId) (a : Nat → Nat) (w : (Nat → Int32)) (kn : Int32) (kp : Int32) (sd : Int32) (ks : (Nat → Int32)) (bo : (Nat → Int32)) (bi : (Nat → Int32)) (bk : Int32) (ri : (Nat → Int32)) (fm : (Nat → Int32)) (tt : (Nat → Int32)) (le : Int32) (wa : (Nat → Int32)) (hd : (Nat → Int64)) (sx : (Nat → Int32)) (b1 : (Nat → Int64)) (b2 : (Nat → Int64)) (v1 : Int32) (v2 : Int32) (r : Int32) (w_o : (Nat → Int32)) (kn_o : Int32) (hf : fX8_hear w kn v1 v2 = some (r, w_o, kn_o)) : MetI l yX8_hear wsX8_hear rmX8_hear D (TYL cI cJ cZ cN cM) [.ref (a 0), .int v1, .int v2] (mW cI cJ cZ cN cM a w kn kp sd ks bo bi bk ri fm tt le wa hd sx b1 b2) (mW cI cJ cZ cN cM a w_o kn_o kp sd ks bo bi bk ri fm tt le wa hd sx b1 b2) r := by
  refine MetI.mk (cc := cX8_hear) (maxL := 3) (own := RX8) (ty := .int) [(0, .ref (a 0)), (1, .int v1), (2, .int v2)] (by decide +kernel) rfl rfl (Nat.le_of_ble_eq_true rfl) rfl ?_
  intro p e s m args below meth c A Q C hret
  unfold fX8_hear at hf
  refine q_aload_n C 0 dX8_hear_0 rfl ?_
  refine q_iload_n C 1 dX8_hear_1 rfl ?_
  obtain ⟨x2, hM, hf⟩ := bd_e hf
  refine q_callVI C (mW cI cJ cZ cN cM a w kn kp sd ks bo bi bk ri fm tt le wa hd sx b1 b2) (kX8_isNode l D cI cJ cZ cN cM a w kn kp sd ks bo bi bk ri fm tt le wa hd sx b1 b2 v1 x2 hM) (cwV 1 C.1.2.2.2.2 gX8_hear_X8_isNode rfl rfl rfl hdX8_isNode ⟨Nat.le_of_ble_eq_true rfl, Nat.le_of_ble_eq_true rfl⟩) 0 7 rfl rfl FrX.all rfl rfl (Nat.le_of_ble_eq_true rfl) dX8_hear_2 ⟨Nat.zero_le _, Nat.zero_le _⟩ ?_
  refine q_if_ne C 11 dX8_hear_5 (by decide) hf (fun hf => ?_) (fun hf => ?_)
  · refine q_iload_n C 2 dX8_hear_11 rfl ?_
    refine q_iconst C 0 dX8_hear_12 (by decide) ?_
    refine q_ldc C dX8_hear_13 lkX8_hear_2 ?_
    obtain ⟨x15, hM, hf⟩ := bd_e hf
    refine q_callSI C (mW cI cJ cZ cN cM a w kn kp sd ks bo bi bk ri fm tt le wa hd sx b1 b2) (kX8_in l D cI cJ cZ cN cM   v2 (0 : Int32) (65535 : Int32) x15 hM) (va_cwS 3 C.1.2.2.2.2 gX8_hear_X8_in rfl rfl rfl hdX8_in ⟨Nat.le_of_ble_eq_true rfl, Nat.le_of_ble_eq_true rfl⟩) FrX.none rfl rfl (Nat.le_of_ble_eq_true rfl) dX8_hear_15 ⟨Nat.zero_le _, Nat.zero_le _⟩ ?_
    refine q_if_eq C 33 dX8_hear_18 (by decide) hf (fun hf => ?_) (fun hf => ?_)
    · refine q_ldc C dX8_hear_33 lkX8_hear_3 ?_
      have hy0 := Option.some.inj hf
      clear hf
      obtain ⟨hz1, hy1⟩ := Prod.mk.inj hy0
      clear hy0
      obtain ⟨hz2, hy2⟩ := Prod.mk.inj hy1
      clear hy1
      subst hz1
      subst hz2
      subst hy2
      exact hret _ _ dX8_hear_35 rfl
    · refine q_aload_n C 0 dX8_hear_21 rfl ?_
      refine q_bipush C 21 dX8_hear_22 (by decide) ?_
      refine q_iload_n C 1 dX8_hear_24 rfl ?_
      refine q_iadd C dX8_hear_25 ?_
      refine q_iload_n C 2 dX8_hear_26 rfl ?_
      obtain ⟨x27, w_27, kn_27, hM, hf⟩ := bd3_e hf
      refine q_callVI C (mW cI cJ cZ cN cM a w_27 kn_27 kp sd ks bo bi bk ri fm tt le wa hd sx b1 b2) (kX8_put l D cI cJ cZ cN cM a w kn kp sd ks bo bi bk ri fm tt le wa hd sx b1 b2 ((21 : Int32) + v1) v2 x27 w_27 kn_27 hM) (cwV 2 C.1.2.2.2.2 gX8_hear_X8_put rfl rfl rfl hdX8_put ⟨Nat.le_of_ble_eq_true rfl, Nat.le_of_ble_eq_true rfl⟩) 0 7 rfl rfl FrX.all rfl rfl (Nat.le_of_ble_eq_true rfl) dX8_hear_27 ⟨Nat.zero_le _, Nat.zero_le _⟩ ?_
      refine q_goto C 35 dX8_hear_30 (by decide) ?_
      have hy0 := Option.some.inj hf
      clear hf
      obtain ⟨hz1, hy1⟩ := Prod.mk.inj hy0
      clear hy0
      obtain ⟨hz2, hy2⟩ := Prod.mk.inj hy1
      clear hy1
      subst hz1
      subst hz2
      subst hy2
      exact hret _ _ dX8_hear_35 rfl
  · refine q_ldc C dX8_hear_8 lkX8_hear_1 ?_
    have hy0 := Option.some.inj hf
    clear hf
    obtain ⟨hz1, hy1⟩ := Prod.mk.inj hy0
    clear hy0
    obtain ⟨hz2, hy2⟩ := Prod.mk.inj hy1
    clear hy1
    subst hz1
    subst hz2
    subst hy2
    exact hret _ _ dX8_hear_10 rfl

theorem lkX8_salt_1 : Cond.constant RX8 210 (65535) ∈ wsX8_salt := List.mem_of_getElem? (i := 1) rfl
theorem lkX8_salt_2 : Cond.constant RX8 179 (-1000000002) ∈ wsX8_salt := List.mem_of_getElem? (i := 2) rfl
theorem inX8_salt_X8 : ∀ w ∈ wsX80, w ∈ wsX8_salt := fun w h => List.mem_cons_of_mem _ (List.mem_append_right _ h)
abbrev rmX8_salt : Room := { frames := 3, cells := 0, slots := 0, locals := 67 }
theorem hdX8_salt : yX8_salt.cls = RX8 ∧ yX8_salt.cls ≠ "java/lang/invoke/MethodHandle" ∧ yX8_salt.cls ≠ "java/lang/invoke/VarHandle" ∧ (parseMethodDescriptor yX8_salt.desc).map (fun d => d.parameters.length) = some 1 := by decide +kernel
def fX8_salt (w : (Nat → Int32)) (kn : Int32) (v1 : Int32) : Option (Int32 × (Nat → Int32) × Int32) :=
  (fX8_in v1 (0 : Int32) (65535 : Int32)).bind fun x4 =>
  if x4 = 0 then (
  some ((-1000000002 : Int32), w, kn)) else (
  bd3 (fX8_put w kn (1 : Int32) v1) fun x13 w_13 kn_13 =>
  some (x13, w_13, kn_13))
set_option maxRecDepth 100000 in
set_option maxHeartbeats 4000000 in
theorem kX8_salt (l : Launch) (D : va_G) (cI cJ cZ cN cM : ClassId) (a : Nat → Nat) (w : (Nat → Int32)) (kn : Int32) (kp : Int32) (sd : Int32) (ks : (Nat → Int32)) (bo : (Nat → Int32)) (bi : (Nat → Int32)) (bk : Int32) (ri : (Nat → Int32)) (fm : (Nat → Int32)) (tt : (Nat → Int32)) (le : Int32) (wa : (Nat → Int32)) (hd : (Nat → Int64)) (sx : (Nat → Int32)) (b1 : (Nat → Int64)) (b2 : (Nat → Int64)) (v1 : Int32) (r : Int32) (w_o : (Nat → Int32)) (kn_o : Int32) (hf : fX8_salt w kn v1 = some (r, w_o, kn_o)) : MetI l yX8_salt wsX8_salt rmX8_salt D (TYL cI cJ cZ cN cM) [.ref (a 0), .int v1] (mW cI cJ cZ cN cM a w kn kp sd ks bo bi bk ri fm tt le wa hd sx b1 b2) (mW cI cJ cZ cN cM a w_o kn_o kp sd ks bo bi bk ri fm tt le wa hd sx b1 b2) r := by
  refine MetI.mk (cc := cX8_salt) (maxL := 2) (own := RX8) (ty := .int) [(0, .ref (a 0)), (1, .int v1)] (by decide +kernel) rfl rfl (Nat.le_of_ble_eq_true rfl) rfl ?_
  intro p e s m args below meth c A Q C hret
  unfold fX8_salt at hf
  refine q_iload_n C 1 dX8_salt_0 rfl ?_
  refine q_iconst C 0 dX8_salt_1 (by decide) ?_
  refine q_ldc C dX8_salt_2 lkX8_salt_1 ?_
  obtain ⟨x4, hM, hf⟩ := bd_e hf
  refine q_callSI C (mW cI cJ cZ cN cM a w kn kp sd ks bo bi bk ri fm tt le wa hd sx b1 b2) (kX8_in l D cI cJ cZ cN cM   v1 (0 : Int32) (65535 : Int32) x4 hM) (va_cwS 3 C.1.2.2.2.2 gX8_salt_X8_in rfl rfl rfl hdX8_in ⟨Nat.le_of_ble_eq_true rfl, Nat.le_of_ble_eq_true rfl⟩) FrX.none rfl rfl (Nat.le_of_ble_eq_true rfl) dX8_salt_4 ⟨Nat.zero_le _, Nat.zero_le _⟩ ?_
  refine q_if_eq C 19 dX8_salt_7 (by decide) hf (fun hf => ?_) (fun hf => ?_)
  · refine q_ldc C dX8_salt_19 lkX8_salt_2 ?_
    have hy0 := Option.some.inj hf
    clear hf
    obtain ⟨hz1, hy1⟩ := Prod.mk.inj hy0
    clear hy0
    obtain ⟨hz2, hy2⟩ := Prod.mk.inj hy1
    clear hy1
    subst hz1
    subst hz2
    subst hy2
    exact hret _ _ dX8_salt_21 rfl
  · refine q_aload_n C 0 dX8_salt_10 rfl ?_
    refine q_iconst C 1 dX8_salt_11 (by decide) ?_
    refine q_iload_n C 1 dX8_salt_12 rfl ?_
    obtain ⟨x13, w_13, kn_13, hM, hf⟩ := bd3_e hf
    refine q_callVI C (mW cI cJ cZ cN cM a w_13 kn_13 kp sd ks bo bi bk ri fm tt le wa hd sx b1 b2) (kX8_put l D cI cJ cZ cN cM a w kn kp sd ks bo bi bk ri fm tt le wa hd sx b1 b2 (1 : Int32) v1 x13 w_13 kn_13 hM) (cwV 2 C.1.2.2.2.2 gX8_salt_X8_put rfl rfl rfl hdX8_put ⟨Nat.le_of_ble_eq_true rfl, Nat.le_of_ble_eq_true rfl⟩) 0 7 rfl rfl FrX.all rfl rfl (Nat.le_of_ble_eq_true rfl) dX8_salt_13 ⟨Nat.zero_le _, Nat.zero_le _⟩ ?_
    refine q_goto C 21 dX8_salt_16 (by decide) ?_
    have hy0 := Option.some.inj hf
    clear hf
    obtain ⟨hz1, hy1⟩ := Prod.mk.inj hy0
    clear hy0
    obtain ⟨hz2, hy2⟩ := Prod.mk.inj hy1
    clear hy1
    subst hz1
    subst hz2
    subst hy2
    exact hret _ _ dX8_salt_21 rfl
