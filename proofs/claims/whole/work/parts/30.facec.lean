theorem lkX7_rows_1 : Cond.constantLong RX7 148 (-1000000002) ∈ wsX7_rows := List.mem_of_getElem? (i := 1) rfl
theorem lkX7_rows_2 : Cond.fieldLink RX7 51 "TwiceHeard" "rowCounts" "[J" ∈ wsX7_rows := List.mem_of_getElem? (i := 2) rfl
theorem inX7_rows_X7 : ∀ w ∈ wsX70, w ∈ wsX7_rows := fun w h => List.mem_cons_of_mem _ (List.mem_append_right _ h)
abbrev rmX7_rows : Room := { frames := 1, cells := 0, slots := 0, locals := 31 }
theorem hdX7_rows : yX7_rows.cls = RX7 ∧ yX7_rows.cls ≠ "java/lang/invoke/MethodHandle" ∧ yX7_rows.cls ≠ "java/lang/invoke/VarHandle" ∧ (parseMethodDescriptor yX7_rows.desc).map (fun d => d.parameters.length) = some 2 := by decide +kernel
def fX7_rows_L49 (v3 : Int32) : Nat → Int32 → (Nat → Int64) → Option ((Nat → Int64))
  | 0, _, _ => none
  | n + 1, v4, rc =>
  if v4 < 0 then (
  some rc) else (
  (fX7_waysOfRank v3).bind fun x65 =>
  (fX7_rowsJoined rc v4 (1 : Int32) x65).bind fun x68 =>
  (wrL 9 rc v4 x68).bind fun rc_71 =>
  fX7_rows_L49 v3 n (v4 + (-1)) rc_71)
def fX7_rows_L41 (v1 : Int32) (v2 : Int32) : Nat → Int32 → (Nat → Int64) → Option ((Nat → Int64))
  | 0, _, _ => none
  | n + 1, v3, rc =>
  if v2 ≤ v3 then (
  some rc) else (
  (fX7_rows_L49 v3 300 v1 rc).bind fun rc_49 =>
  fX7_rows_L41 v1 v2 n (v3 + 1) rc_49)
def fX7_rows (rc : (Nat → Int64)) (v1 : Int32) (v2 : Int32) : Option (Int64 × (Nat → Int64)) :=
  (fX7_within v1 (1 : Int32) (8 : Int32)).bind fun x4 =>
  jn0 (
  some ((-1000000002 : Int64), rc)) fun k20 =>
  if x4 = 0 then (
  k20) else (
  (fX7_within v2 (0 : Int32) (8 : Int32)).bind fun x14 =>
  if x14 = 0 then (
  k20) else (
  (fJ7_fill_d0a16 rc (0 : Int64)).bind fun rc_29 =>
  (fX7_rows_L41 v1 v2 300 (0 : Int32) (vp_updL rc_29 0 (1 : Int64))).bind fun rc_41 =>
  (fX7_waysAboveRank v2).bind fun x88 =>
  (fX7_rowsJoined rc_41 v1 (0 : Int32) x88).bind fun x91 =>
  some (x91, rc_41)))
set_option maxRecDepth 100000 in
set_option maxHeartbeats 4000000 in
theorem wX7_rows_L49 {p : Program} {l : Launch} {e : Env} {s : State} {m : MethodId} {args : Array Value} {below : List Frame} {meth : Method} {c : Code} {Q : State → Prop} {D : va_G} {A : Nat → Prop} {cI cJ cZ cN cM : ClassId} (C : Cx p s m args c cX7_rows 5 RX7 wsX7_rows D (TYL cI cJ cZ cN cM) A) (xa : Nat → Nat) (na : Nat → Nat) (pa : Nat → Nat) (ta : Nat → Nat) (ba : Nat → Nat) (da : Nat → Nat) (ia : Nat → Nat)  (v3 : Int32) (v1 : Int32) (v2 : Int32) (rc_o : (Nat → Int64)) (kk : WW p l e rmX7_rows s m args below meth c Q D A 5 0 0 (xW cI cJ cZ cN cM xa na pa ta ba da ia rc_o) [(0, .ref (xa 0)), (1, .int v1), (2, .int v2), (3, .int v3)] 78 []) : ∀ (n : Nat) (v4 : Int32) (rc : (Nat → Int64)), fX7_rows_L49 v3 n v4 rc = some rc_o → WW p l e rmX7_rows s m args below meth c Q D A 5 0 0 (xW cI cJ cZ cN cM xa na pa ta ba da ia rc) [(0, .ref (xa 0)), (1, .int v1), (2, .int v2), (3, .int v3), (4, .int v4)] 49 [] := by
  intro n
  induction n with
  | zero =>
    intro v4 rc hf
    rw [fX7_rows_L49] at hf
    cases hf
  | succ n ih =>
    intro v4 rc hf
    rw [fX7_rows_L49] at hf
    refine q_iload C 4 dX7_rows_49 rfl ?_
    refine q_if_lt C 78 dX7_rows_51 (by decide) hf (fun hf => ?_) (fun hf => ?_)
    · refine q_lv [(0, .ref (xa 0)), (1, .int v1), (2, .int v2), (3, .int v3)] [0, 1, 2, 3] rfl ?_
      have hz1 := Option.some.inj hf
      clear hf
      subst hz1
      exact kk
    · refine q_aload_n C 0 dX7_rows_54 rfl ?_
      refine q_get C 0 6 dX7_rows_55 rfl rfl (Nat.le_of_ble_eq_true rfl) inX7_rows_X7 lkX7_rows_2 rfl rfl ?_
      refine q_iload C 4 dX7_rows_58 rfl ?_
      refine q_aload_n C 0 dX7_rows_60 rfl ?_
      refine q_iload C 4 dX7_rows_61 rfl ?_
      refine q_iconst C 1 dX7_rows_63 (by decide) ?_
      refine q_iload_n C 3 dX7_rows_64 rfl ?_
      obtain ⟨x65, hM, hf⟩ := bd_e hf
      refine q_callSL C (xW cI cJ cZ cN cM xa na pa ta ba da ia rc) (kX7_waysOfRank l D cI cJ cZ cN cM   v3 x65 hM) (va_cwS 1 C.1.2.2.2.2 gX7_rows_X7_waysOfRank rfl rfl rfl hdX7_waysOfRank ⟨Nat.le_of_ble_eq_true rfl, Nat.le_of_ble_eq_true rfl⟩) FrX.none rfl rfl (Nat.le_of_ble_eq_true rfl) dX7_rows_65 ⟨Nat.zero_le _, Nat.zero_le _⟩ ?_
      obtain ⟨x68, hM, hf⟩ := bd_e hf
      refine q_callVL C (xW cI cJ cZ cN cM xa na pa ta ba da ia rc) (kX7_rowsJoined l D cI cJ cZ cN cM xa na pa ta ba da ia rc v4 (1 : Int32) x65 x68 hM) (cwV 3 C.1.2.2.2.2 gX7_rows_X7_rowsJoined rfl rfl rfl hdX7_rowsJoined ⟨Nat.le_of_ble_eq_true rfl, Nat.le_of_ble_eq_true rfl⟩) 0 6 rfl rfl FrX.all rfl rfl (Nat.le_of_ble_eq_true rfl) dX7_rows_68 ⟨Nat.zero_le _, Nat.zero_le _⟩ ?_
      refine q_last C 1 1 (fun rc_71 => xW cI cJ cZ cN cM xa na pa ta ba da ia rc_71) dX7_rows_71 rfl rfl (fun _ => rfl) hf (fun rc_71 hf => ?_)
      refine q_iinc C (v4 + (-1)) 4 [(4, .int (v4 + (-1))), (0, .ref (xa 0)), (1, .int v1), (2, .int v2), (3, .int v3)] dX7_rows_72 rfl rfl (by decide) rfl ?_
      refine q_goto C 49 dX7_rows_75 (by decide) ?_
      refine q_lv [(0, .ref (xa 0)), (1, .int v1), (2, .int v2), (3, .int v3), (4, .int (v4 + (-1)))] [1, 2, 3, 4, 0] rfl ?_
      exact ih _ _ hf
set_option maxRecDepth 100000 in
set_option maxHeartbeats 4000000 in
theorem wX7_rows_L41 {p : Program} {l : Launch} {e : Env} {s : State} {m : MethodId} {args : Array Value} {below : List Frame} {meth : Method} {c : Code} {Q : State → Prop} {D : va_G} {A : Nat → Prop} {cI cJ cZ cN cM : ClassId} (C : Cx p s m args c cX7_rows 5 RX7 wsX7_rows D (TYL cI cJ cZ cN cM) A) (xa : Nat → Nat) (na : Nat → Nat) (pa : Nat → Nat) (ta : Nat → Nat) (ba : Nat → Nat) (da : Nat → Nat) (ia : Nat → Nat)  (v1 : Int32) (v2 : Int32) (rc_o : (Nat → Int64)) (kk : WW p l e rmX7_rows s m args below meth c Q D A 5 0 0 (xW cI cJ cZ cN cM xa na pa ta ba da ia rc_o) [(0, .ref (xa 0)), (1, .int v1), (2, .int v2)] 84 []) : ∀ (n : Nat) (v3 : Int32) (rc : (Nat → Int64)), fX7_rows_L41 v1 v2 n v3 rc = some rc_o → WW p l e rmX7_rows s m args below meth c Q D A 5 0 0 (xW cI cJ cZ cN cM xa na pa ta ba da ia rc) [(0, .ref (xa 0)), (1, .int v1), (2, .int v2), (3, .int v3)] 41 [] := by
  intro n
  induction n with
  | zero =>
    intro v3 rc hf
    rw [fX7_rows_L41] at hf
    cases hf
  | succ n ih =>
    intro v3 rc hf
    rw [fX7_rows_L41] at hf
    refine q_iload_n C 3 dX7_rows_41 rfl ?_
    refine q_iload_n C 2 dX7_rows_42 rfl ?_
    refine q_icmp_ge C 84 dX7_rows_43 (by decide) hf (fun hf => ?_) (fun hf => ?_)
    · refine q_lv [(0, .ref (xa 0)), (1, .int v1), (2, .int v2)] [0, 1, 2] rfl ?_
      have hz1 := Option.some.inj hf
      clear hf
      subst hz1
      exact kk
    · refine q_iload_n C 1 dX7_rows_46 rfl ?_
      refine q_istore C [(4, .int v1), (0, .ref (xa 0)), (1, .int v1), (2, .int v2), (3, .int v3)] dX7_rows_47 (by decide) rfl ?_
      obtain ⟨rc_49, hL, hf⟩ := bd_e hf
      refine q_lv [(0, .ref (xa 0)), (1, .int v1), (2, .int v2), (3, .int v3), (4, .int v1)] [1, 2, 3, 4, 0] rfl ?_
      refine wX7_rows_L49 C xa na pa ta ba da ia  v3 v1 v2 rc_49 ?_ 300 _ _ hL
      refine q_iinc C (v3 + 1) 3 [(3, .int (v3 + 1)), (0, .ref (xa 0)), (1, .int v1), (2, .int v2)] dX7_rows_78 rfl rfl (by decide) rfl ?_
      refine q_goto C 41 dX7_rows_81 (by decide) ?_
      refine q_lv [(0, .ref (xa 0)), (1, .int v1), (2, .int v2), (3, .int (v3 + 1))] [1, 2, 3, 0] rfl ?_
      exact ih _ _ hf
set_option maxRecDepth 100000 in
set_option maxHeartbeats 4000000 in
theorem kX7_rows (l : Launch) (D : va_G) (cI cJ cZ cN cM : ClassId) (xa : Nat → Nat) (na : Nat → Nat) (pa : Nat → Nat) (ta : Nat → Nat) (ba : Nat → Nat) (da : Nat → Nat) (ia : Nat → Nat) (rc : (Nat → Int64)) (v1 : Int32) (v2 : Int32) (r : Int64) (rc_o : (Nat → Int64)) (hf : fX7_rows rc v1 v2 = some (r, rc_o)) : MetL l yX7_rows wsX7_rows rmX7_rows D (TYL cI cJ cZ cN cM) [.ref (xa 0), .int v1, .int v2] (xW cI cJ cZ cN cM xa na pa ta ba da ia rc) (xW cI cJ cZ cN cM xa na pa ta ba da ia rc_o) r := by
  refine MetL.mk (cc := cX7_rows) (maxL := 5) (own := RX7) [(0, .ref (xa 0)), (1, .int v1), (2, .int v2)] (by decide +kernel) rfl rfl (Nat.le_of_ble_eq_true rfl) rfl ?_
  intro p e s m args below meth c A Q C hret
  unfold fX7_rows at hf
  refine q_iload_n C 1 dX7_rows_0 rfl ?_
  refine q_iconst C 1 dX7_rows_1 (by decide) ?_
  refine q_bipush C 8 dX7_rows_2 (by decide) ?_
  obtain ⟨x4, hM, hf⟩ := bd_e hf
  refine q_callSI C (xW cI cJ cZ cN cM xa na pa ta ba da ia rc) (kX7_within l D cI cJ cZ cN cM   v1 (1 : Int32) (8 : Int32) x4 hM) (va_cwS 3 C.1.2.2.2.2 gX7_rows_X7_within rfl rfl rfl hdX7_within ⟨Nat.le_of_ble_eq_true rfl, Nat.le_of_ble_eq_true rfl⟩) FrX.none rfl rfl (Nat.le_of_ble_eq_true rfl) dX7_rows_4 ⟨Nat.zero_le _, Nat.zero_le _⟩ ?_
  refine jn0_e (WW p l e rmX7_rows s m args below meth c Q D A 5 0 0 (xW cI cJ cZ cN cM xa na pa ta ba da ia rc) [] 20 []) hf ?_ ?_
  · intro hf
    refine q_ldc2 C dX7_rows_20 lkX7_rows_1 ?_
    have hy0 := Option.some.inj hf
    clear hf
    obtain ⟨hz1, hy1⟩ := Prod.mk.inj hy0
    clear hy0
    subst hz1
    subst hy1
    exact hret _ _ dX7_rows_23
  intro k20 J20 hf
  refine q_if_eq C 20 dX7_rows_7 (by decide) hf (fun hf => ?_) (fun hf => ?_)
  · refine q_lv [] [] rfl ?_
    exact J20  hf
  · refine q_iload_n C 2 dX7_rows_10 rfl ?_
    refine q_iconst C 0 dX7_rows_11 (by decide) ?_
    refine q_bipush C 8 dX7_rows_12 (by decide) ?_
    obtain ⟨x14, hM, hf⟩ := bd_e hf
    refine q_callSI C (xW cI cJ cZ cN cM xa na pa ta ba da ia rc) (kX7_within l D cI cJ cZ cN cM   v2 (0 : Int32) (8 : Int32) x14 hM) (va_cwS 3 C.1.2.2.2.2 gX7_rows_X7_within rfl rfl rfl hdX7_within ⟨Nat.le_of_ble_eq_true rfl, Nat.le_of_ble_eq_true rfl⟩) FrX.none rfl rfl (Nat.le_of_ble_eq_true rfl) dX7_rows_14 ⟨Nat.zero_le _, Nat.zero_le _⟩ ?_
    refine q_if_ne C 24 dX7_rows_17 (by decide) hf (fun hf => ?_) (fun hf => ?_)
    · refine q_aload_n C 0 dX7_rows_24 rfl ?_
      refine q_get C 0 6 dX7_rows_25 rfl rfl (Nat.le_of_ble_eq_true rfl) inX7_rows_X7 lkX7_rows_2 rfl rfl ?_
      refine q_lconst C 0 dX7_rows_28 (by decide) ?_
      obtain ⟨rc_29, hM, hf⟩ := bd_e hf
      refine q_callSV C (xW cI cJ cZ cN cM xa na pa ta ba da ia rc_29) (kJ7_fill_d0a16 l D cI cJ cZ cN cM (fun _ => xa 1) rc (0 : Int64) rc_29 hM) (va_cwS 2 C.1.2.2.2.2 gX7_rows_J7_fill_d0a16 rfl rfl rfl hdJ7_fill_d0a16 ⟨Nat.le_of_ble_eq_true rfl, Nat.le_of_ble_eq_true rfl⟩) (FrX.ofB [1] [0] [0, 1] rfl rfl rfl rfl rfl rfl rfl) rfl rfl (Nat.le_of_ble_eq_true rfl) dX7_rows_29 ⟨Nat.zero_le _, Nat.zero_le _⟩ ?_
      refine q_aload_n C 0 dX7_rows_32 rfl ?_
      refine q_get C 0 6 dX7_rows_33 rfl rfl (Nat.le_of_ble_eq_true rfl) inX7_rows_X7 lkX7_rows_2 rfl rfl ?_
      refine q_iconst C 0 dX7_rows_36 (by decide) ?_
      refine q_lconst C 1 dX7_rows_37 (by decide) ?_
      refine q_lastC C 1 1 (xW cI cJ cZ cN cM xa na pa ta ba da ia (vp_updL rc_29 0 (1 : Int64))) dX7_rows_38 rfl rfl (by unfold vp_in; decide) rfl ?_
      refine q_iconst C 0 dX7_rows_39 (by decide) ?_
      refine q_istore_n C [(3, .int (0 : Int32)), (0, .ref (xa 0)), (1, .int v1), (2, .int v2)] dX7_rows_40 (by decide) rfl ?_
      obtain ⟨rc_41, hL, hf⟩ := bd_e hf
      refine q_lv [(0, .ref (xa 0)), (1, .int v1), (2, .int v2), (3, .int (0 : Int32))] [1, 2, 3, 0] rfl ?_
      refine wX7_rows_L41 C xa na pa ta ba da ia  v1 v2 rc_41 ?_ 300 _ _ hL
      refine q_aload_n C 0 dX7_rows_84 rfl ?_
      refine q_iload_n C 1 dX7_rows_85 rfl ?_
      refine q_iconst C 0 dX7_rows_86 (by decide) ?_
      refine q_iload_n C 2 dX7_rows_87 rfl ?_
      obtain ⟨x88, hM, hf⟩ := bd_e hf
      refine q_callSL C (xW cI cJ cZ cN cM xa na pa ta ba da ia rc_41) (kX7_waysAboveRank l D cI cJ cZ cN cM   v2 x88 hM) (va_cwS 1 C.1.2.2.2.2 gX7_rows_X7_waysAboveRank rfl rfl rfl hdX7_waysAboveRank ⟨Nat.le_of_ble_eq_true rfl, Nat.le_of_ble_eq_true rfl⟩) FrX.none rfl rfl (Nat.le_of_ble_eq_true rfl) dX7_rows_88 ⟨Nat.zero_le _, Nat.zero_le _⟩ ?_
      obtain ⟨x91, hM, hf⟩ := bd_e hf
      refine q_callVL C (xW cI cJ cZ cN cM xa na pa ta ba da ia rc_41) (kX7_rowsJoined l D cI cJ cZ cN cM xa na pa ta ba da ia rc_41 v1 (0 : Int32) x88 x91 hM) (cwV 3 C.1.2.2.2.2 gX7_rows_X7_rowsJoined rfl rfl rfl hdX7_rowsJoined ⟨Nat.le_of_ble_eq_true rfl, Nat.le_of_ble_eq_true rfl⟩) 0 6 rfl rfl FrX.all rfl rfl (Nat.le_of_ble_eq_true rfl) dX7_rows_91 ⟨Nat.zero_le _, Nat.zero_le _⟩ ?_
      have hy0 := Option.some.inj hf
      clear hf
      obtain ⟨hz1, hy1⟩ := Prod.mk.inj hy0
      clear hy0
      subst hz1
      subst hy1
      exact hret _ _ dX7_rows_94
    · refine q_lv [] [] rfl ?_
      exact J20  hf

theorem lkX4_remember_1 : Cond.fieldLink RX4 11 "TwiceHeard$Past" "states" "[LTwiceHeard$Net;" ∈ wsX4_remember := List.mem_of_getElem? (i := 1) rfl
theorem lkX4_remember_2 : Cond.fieldLink RX4 18 "TwiceHeard$Past" "next" "I" ∈ wsX4_remember := List.mem_of_getElem? (i := 2) rfl
theorem lkX4_remember_3 : Cond.fieldLink RX4 26 "TwiceHeard$Past" "size" "I" ∈ wsX4_remember := List.mem_of_getElem? (i := 3) rfl
theorem lkX4_remember_4 : Cond.methodLink RX4 29 Lib.Math.min.name ∈ wsX4_remember := List.mem_of_getElem? (i := 4) rfl
theorem lkX4_remember_5 : Cond.static Lib.Math.min.name ∈ wsX4_remember := List.mem_of_getElem? (i := 5) rfl
theorem lkX4_remember_6 : Cond.initialized "java/lang/Math" ∈ wsX4_remember := List.mem_of_getElem? (i := 6) rfl
theorem lkX4_remember_7 : Cond.code Lib.Math.min.name Lib.Math.min.code 2 (some .int) ∈ wsX4_remember := List.mem_of_getElem? (i := 7) rfl
theorem inX4_remember_X4 : ∀ w ∈ wsX40, w ∈ wsX4_remember := fun w h => List.mem_cons_of_mem _ (List.mem_append_left _ (List.mem_append_right _ h))
theorem inX4_remember_X3 : ∀ w ∈ wsX30, w ∈ wsX4_remember := fun w h => List.mem_cons_of_mem _ (List.mem_append_right _ h)
abbrev rmX4_remember : Room := { frames := 2, cells := 0, slots := 0, locals := 61 }
theorem hdX4_remember : yX4_remember.cls = RX4 ∧ yX4_remember.cls ≠ "java/lang/invoke/MethodHandle" ∧ yX4_remember.cls ≠ "java/lang/invoke/VarHandle" ∧ (parseMethodDescriptor yX4_remember.desc).map (fun d => d.parameters.length) = some 1 := by decide +kernel
def fX4_remember (pz : Int32) (pn : Int32) (gsz : (Nat → Int32)) (gsa : (Nat → Int32)) (gmo : (Nat → Int32)) (gli : (Nat → Nat → Int32)) (glo : (Nat → Nat → Int32)) (ghe : (Nat → Nat → Int32)) (sz : Int32) (sa : Int32) (mo : Int32) (li : (Nat → Int32)) (lo : (Nat → Int32)) (he : (Nat → Int32))  : Option (Int32 × Int32 × (Nat → Int32) × (Nat → Int32) × (Nat → Int32) × (Nat → Nat → Int32) × (Nat → Nat → Int32) × (Nat → Nat → Int32)) :=
  (ixN 16 pn).bind fun j8 =>
  bd6 (fX3_become (gsz j8) (gsa j8) (gmo j8) (gli j8) (glo j8) (ghe j8) sz sa mo li lo he) fun gsz_10 gsa_10 gmo_10 gli_10 glo_10 ghe_10 =>
  some ((if (16 : Int32) < (pz + (1 : Int32)) then (16 : Int32) else (pz + (1 : Int32))), ((pn + (1 : Int32)) - (pn + (1 : Int32)) / (16 : Int32) * (16 : Int32)), (upd gsz j8 gsz_10), (upd gsa j8 gsa_10), (upd gmo j8 gmo_10), (va_up gli j8 gli_10), (va_up glo j8 glo_10), (va_up ghe j8 ghe_10))
set_option maxRecDepth 100000 in
set_option maxHeartbeats 4000000 in
theorem kX4_remember (l : Launch) (D : va_G) (cI cJ cZ cN cM : ClassId) (pa : Nat → Nat) (ga : Nat → Nat) (na : Nat → Nat) (pz : Int32) (pn : Int32) (gsz : (Nat → Int32)) (gsa : (Nat → Int32)) (gmo : (Nat → Int32)) (gli : (Nat → Nat → Int32)) (glo : (Nat → Nat → Int32)) (ghe : (Nat → Nat → Int32)) (sz : Int32) (sa : Int32) (mo : Int32) (li : (Nat → Int32)) (lo : (Nat → Int32)) (he : (Nat → Int32))  (pz_o : Int32) (pn_o : Int32) (gsz_o : (Nat → Int32)) (gsa_o : (Nat → Int32)) (gmo_o : (Nat → Int32)) (gli_o : (Nat → Nat → Int32)) (glo_o : (Nat → Nat → Int32)) (ghe_o : (Nat → Nat → Int32)) (hf : fX4_remember pz pn gsz gsa gmo gli glo ghe sz sa mo li lo he = some (pz_o, pn_o, gsz_o, gsa_o, gmo_o, gli_o, glo_o, ghe_o)) : MetV l yX4_remember wsX4_remember rmX4_remember D (TYL cI cJ cZ cN cM) [.ref (pa 0), .ref (na 0)] (List.flatten [pW cI cJ cZ cN cM pa ga pz pn, gW cI cJ cZ cN cM ga gsz gsa gmo gli glo ghe, nW cI cJ cZ cN cM na sz sa mo li lo he]) (List.flatten [pW cI cJ cZ cN cM pa ga pz_o pn_o, gW cI cJ cZ cN cM ga gsz_o gsa_o gmo_o gli_o glo_o ghe_o, nW cI cJ cZ cN cM na sz sa mo li lo he]) := by
  refine MetV.mk (cc := cX4_remember) (maxL := 2) (own := RX4) [(0, .ref (pa 0)), (1, .ref (na 0))] (by decide +kernel) rfl rfl (Nat.le_of_ble_eq_true rfl) rfl ?_
  intro p e s m args below meth c A Q C hret
  unfold fX4_remember at hf
  refine q_aload_n C 0 dX4_remember_0 rfl ?_
  refine q_get C 0 0 dX4_remember_1 rfl rfl (Nat.le_of_ble_eq_true rfl) inX4_remember_X4 lkX4_remember_1 rfl rfl ?_
  refine q_aload_n C 0 dX4_remember_4 rfl ?_
  refine q_get C 0 2 dX4_remember_5 rfl rfl (Nat.le_of_ble_eq_true rfl) inX4_remember_X4 lkX4_remember_2 rfl rfl ?_
  refine q_aaldB C (fun j => ga (1 + 4 * j)) 1 3 dX4_remember_8 rfl rfl (fun _ => rfl) hf (fun j8 hj8 hf => ?_)
  refine q_aload_n C 1 dX4_remember_9 rfl ?_
  obtain ⟨gsz_10, gsa_10, gmo_10, gli_10, glo_10, ghe_10, hM, hf⟩ := bd6_e hf
  obtain ⟨q9, hq9⟩ := List.getElem?_of_mem (l := List.flatten [pW cI cJ cZ cN cM pa ga pz pn, gW cI cJ cZ cN cM ga gsz gsa gmo gli glo ghe, nW cI cJ cZ cN cM na sz sa mo li lo he]) (a := (ga (1 + 4 * j8), .inr (3, [.int (gsz j8), .int (gsa j8), .int (gmo j8), .ref (ga (1 + 4 * j8 + 1)), .ref (ga (1 + 4 * j8 + 2)), .ref (ga (1 + 4 * j8 + 3))]))) (List.mem_append_right _ (List.mem_append_left _ (List.mem_cons_of_mem _ (List.mem_flatMap.mpr ⟨j8, List.mem_range.mpr hj8, List.mem_cons_self⟩))))
  refine q_callVV C (List.flatten [pW cI cJ cZ cN cM pa ga pz pn, gW cI cJ cZ cN cM ga (upd gsz j8 gsz_10) (upd gsa j8 gsa_10) (upd gmo j8 gmo_10) (va_up gli j8 gli_10) (va_up glo j8 glo_10) (va_up ghe j8 ghe_10), nW cI cJ cZ cN cM na sz sa mo li lo he]) (kX3_become l D cI cJ cZ cN cM (fun i => ga (1 + 4 * j8 + i)) na (gsz j8) (gsa j8) (gmo j8) (gli j8) (glo j8) (ghe j8) sz sa mo li lo he  gsz_10 gsa_10 gmo_10 gli_10 glo_10 ghe_10 hM) (cwV 1 C.1.2.2.2.2 gX4_remember_X3_become rfl rfl rfl hdX3_become ⟨Nat.le_of_ble_eq_true rfl, Nat.le_of_ble_eq_true rfl⟩) q9 3 hq9 rfl (fr_S1 hj8 rfl (by simp [upd, va_up]) (fun i hi => by simp [upd, va_up, hi])) rfl rfl (Nat.le_of_ble_eq_true rfl) dX4_remember_10 ⟨Nat.zero_le _, Nat.zero_le _⟩ ?_
  refine q_aload_n C 0 dX4_remember_13 rfl ?_
  refine q_aload_n C 0 dX4_remember_14 rfl ?_
  refine q_get C 0 2 dX4_remember_15 rfl rfl (Nat.le_of_ble_eq_true rfl) inX4_remember_X4 lkX4_remember_2 rfl rfl ?_
  refine q_iconst C 1 dX4_remember_18 (by decide) ?_
  refine q_iadd C dX4_remember_19 ?_
  refine q_bipush C 16 dX4_remember_20 (by decide) ?_
  refine q_iremC C dX4_remember_22 (by decide) ?_
  refine q_put C 0 2 (List.flatten [pW cI cJ cZ cN cM pa ga pz ((pn + (1 : Int32)) - (pn + (1 : Int32)) / (16 : Int32) * (16 : Int32)), gW cI cJ cZ cN cM ga (upd gsz j8 gsz_10) (upd gsa j8 gsa_10) (upd gmo j8 gmo_10) (va_up gli j8 gli_10) (va_up glo j8 glo_10) (va_up ghe j8 ghe_10), nW cI cJ cZ cN cM na sz sa mo li lo he]) dX4_remember_23 rfl rfl (Nat.le_of_ble_eq_true rfl) inX4_remember_X4 tyX4 tyX4_ok nmX4 lkX4_remember_2 rfl rfl rfl rfl (Nat.le_of_ble_eq_true rfl) rfl ?_
  refine q_aload_n C 0 dX4_remember_26 rfl ?_
  refine q_aload_n C 0 dX4_remember_27 rfl ?_
  refine q_get C 0 1 dX4_remember_28 rfl rfl (Nat.le_of_ble_eq_true rfl) inX4_remember_X4 lkX4_remember_3 rfl rfl ?_
  refine q_iconst C 1 dX4_remember_31 (by decide) ?_
  refine q_iadd C dX4_remember_32 ?_
  refine q_bipush C 16 dX4_remember_33 (by decide) ?_
  refine q_min C dX4_remember_35 lkX4_remember_4 lkX4_remember_5 lkX4_remember_6 lkX4_remember_7 (Nat.le_of_ble_eq_true rfl) (Nat.le_of_ble_eq_true rfl) (Nat.zero_le _) (Nat.zero_le _) ?_
  refine q_put C 0 1 (List.flatten [pW cI cJ cZ cN cM pa ga (if (16 : Int32) < (pz + (1 : Int32)) then (16 : Int32) else (pz + (1 : Int32))) ((pn + (1 : Int32)) - (pn + (1 : Int32)) / (16 : Int32) * (16 : Int32)), gW cI cJ cZ cN cM ga (upd gsz j8 gsz_10) (upd gsa j8 gsa_10) (upd gmo j8 gmo_10) (va_up gli j8 gli_10) (va_up glo j8 glo_10) (va_up ghe j8 ghe_10), nW cI cJ cZ cN cM na sz sa mo li lo he]) dX4_remember_38 rfl rfl (Nat.le_of_ble_eq_true rfl) inX4_remember_X4 tyX4 tyX4_ok nmX4 lkX4_remember_3 rfl rfl rfl rfl (Nat.le_of_ble_eq_true rfl) rfl ?_
  have hy0 := Option.some.inj hf
  clear hf
  obtain ⟨hz1, hy1⟩ := Prod.mk.inj hy0
  clear hy0
  obtain ⟨hz2, hy2⟩ := Prod.mk.inj hy1
  clear hy1
  obtain ⟨hz3, hy3⟩ := Prod.mk.inj hy2
  clear hy2
  obtain ⟨hz4, hy4⟩ := Prod.mk.inj hy3
  clear hy3
  obtain ⟨hz5, hy5⟩ := Prod.mk.inj hy4
  clear hy4
  obtain ⟨hz6, hy6⟩ := Prod.mk.inj hy5
  clear hy5
  obtain ⟨hz7, hy7⟩ := Prod.mk.inj hy6
  clear hy6
  subst hz1
  subst hz2
  subst hz3
  subst hz4
  subst hz5
  subst hz6
  subst hz7
  subst hy7
  exact hret _ _ dX4_remember_41

theorem lkX7_node_1 : Cond.fieldLink RX7 10 "TwiceHeard" "net" "LTwiceHeard$Net;" ∈ wsX7_node := List.mem_of_getElem? (i := 1) rfl
theorem lkX7_node_2 : Cond.constant RX7 110 (-1000000001) ∈ wsX7_node := List.mem_of_getElem? (i := 2) rfl
theorem lkX7_node_3 : Cond.constant RX7 191 (65535) ∈ wsX7_node := List.mem_of_getElem? (i := 3) rfl
theorem lkX7_node_4 : Cond.constant RX7 105 (-1000000002) ∈ wsX7_node := List.mem_of_getElem? (i := 4) rfl
theorem lkX7_node_5 : Cond.fieldLink RX7 59 "TwiceHeard$Net" "size" "I" ∈ wsX7_node := List.mem_of_getElem? (i := 5) rfl
theorem lkX7_node_6 : Cond.constant RX7 192 (-1000000004) ∈ wsX7_node := List.mem_of_getElem? (i := 6) rfl
theorem lkX7_node_7 : Cond.fieldLink RX7 19 "TwiceHeard" "past" "LTwiceHeard$Past;" ∈ wsX7_node := List.mem_of_getElem? (i := 7) rfl
theorem inX7_node_X7 : ∀ w ∈ wsX70, w ∈ wsX7_node := fun w h => List.mem_cons_of_mem _ (List.mem_append_left _ (List.mem_append_left _ (List.mem_append_right _ h)))
theorem inX7_node_X3 : ∀ w ∈ wsX30, w ∈ wsX7_node := fun w h => List.mem_cons_of_mem _ (List.mem_append_left _ (List.mem_append_right _ h))
theorem inX7_node_X4 : ∀ w ∈ wsX40, w ∈ wsX7_node := fun w h => List.mem_cons_of_mem _ (List.mem_append_right _ h)
abbrev rmX7_node : Room := { frames := 3, cells := 0, slots := 0, locals := 82 }
theorem hdX7_node : yX7_node.cls = RX7 ∧ yX7_node.cls ≠ "java/lang/invoke/MethodHandle" ∧ yX7_node.cls ≠ "java/lang/invoke/VarHandle" ∧ (parseMethodDescriptor yX7_node.desc).map (fun d => d.parameters.length) = some 2 := by decide +kernel
def fX7_node (sz : Int32) (sa : Int32) (mo : Int32) (li : (Nat → Int32)) (lo : (Nat → Int32)) (he : (Nat → Int32)) (pz : Int32) (pn : Int32) (gsz : (Nat → Int32)) (gsa : (Nat → Int32)) (gmo : (Nat → Int32)) (gli : (Nat → Nat → Int32)) (glo : (Nat → Nat → Int32)) (ghe : (Nat → Nat → Int32)) (v1 : Int32) (v2 : Int32) : Option (Int32 × Int32 × (Nat → Int32) × (Nat → Int32) × (Nat → Int32) × Int32 × Int32 × (Nat → Int32) × (Nat → Int32) × (Nat → Int32) × (Nat → Nat → Int32) × (Nat → Nat → Int32) × (Nat → Nat → Int32)) :=
  (fX3_everyone sz).bind fun x5 =>
  if (v1 &&& (x5 ^^^ (-1 : Int32))) = 0 then (
  (fX7_within v2 (0 : Int32) (65535 : Int32)).bind fun x21 =>
  if x21 = 0 then (
  some ((-1000000002 : Int32), sz, li, lo, he, pz, pn, gsz, gsa, gmo, gli, glo, ghe)) else (
  if sz < (9 : Int32) then (
  bd8 (fX4_remember pz pn gsz gsa gmo gli glo ghe sz sa mo li lo he) fun pz_53 pn_53 gsz_53 gsa_53 gmo_53 gli_53 glo_53 ghe_53 =>
  bd4 (fX3_add sz li lo he v1 v2) fun sz_62 li_62 lo_62 he_62 =>
  some ((sz_62 - (1 : Int32)), sz_62, li_62, lo_62, he_62, pz_53, pn_53, gsz_53, gsa_53, gmo_53, gli_53, glo_53, ghe_53)) else (
  some ((-1000000004 : Int32), sz, li, lo, he, pz, pn, gsz, gsa, gmo, gli, glo, ghe)))) else (
  some ((-1000000001 : Int32), sz, li, lo, he, pz, pn, gsz, gsa, gmo, gli, glo, ghe))
set_option maxRecDepth 100000 in
set_option maxHeartbeats 4000000 in
theorem kX7_node (l : Launch) (D : va_G) (cI cJ cZ cN cM : ClassId) (xa : Nat → Nat) (na : Nat → Nat) (pa : Nat → Nat) (ta : Nat → Nat) (ba : Nat → Nat) (da : Nat → Nat) (ia : Nat → Nat) (ga : Nat → Nat) (rc : (Nat → Int64)) (sz : Int32) (sa : Int32) (mo : Int32) (li : (Nat → Int32)) (lo : (Nat → Int32)) (he : (Nat → Int32)) (pz : Int32) (pn : Int32) (gsz : (Nat → Int32)) (gsa : (Nat → Int32)) (gmo : (Nat → Int32)) (gli : (Nat → Nat → Int32)) (glo : (Nat → Nat → Int32)) (ghe : (Nat → Nat → Int32)) (v1 : Int32) (v2 : Int32) (r : Int32) (sz_o : Int32) (li_o : (Nat → Int32)) (lo_o : (Nat → Int32)) (he_o : (Nat → Int32)) (pz_o : Int32) (pn_o : Int32) (gsz_o : (Nat → Int32)) (gsa_o : (Nat → Int32)) (gmo_o : (Nat → Int32)) (gli_o : (Nat → Nat → Int32)) (glo_o : (Nat → Nat → Int32)) (ghe_o : (Nat → Nat → Int32)) (hf : fX7_node sz sa mo li lo he pz pn gsz gsa gmo gli glo ghe v1 v2 = some (r, sz_o, li_o, lo_o, he_o, pz_o, pn_o, gsz_o, gsa_o, gmo_o, gli_o, glo_o, ghe_o)) : MetI l yX7_node wsX7_node rmX7_node D (TYL cI cJ cZ cN cM) [.ref (xa 0), .int v1, .int v2] (List.flatten [xW cI cJ cZ cN cM xa na pa ta ba da ia rc, nW cI cJ cZ cN cM na sz sa mo li lo he, pW cI cJ cZ cN cM pa ga pz pn, gW cI cJ cZ cN cM ga gsz gsa gmo gli glo ghe]) (List.flatten [xW cI cJ cZ cN cM xa na pa ta ba da ia rc, nW cI cJ cZ cN cM na sz_o sa mo li_o lo_o he_o, pW cI cJ cZ cN cM pa ga pz_o pn_o, gW cI cJ cZ cN cM ga gsz_o gsa_o gmo_o gli_o glo_o ghe_o]) r := by
  refine MetI.mk (cc := cX7_node) (maxL := 3) (own := RX7) (ty := .int) [(0, .ref (xa 0)), (1, .int v1), (2, .int v2)] (by decide +kernel) rfl rfl (Nat.le_of_ble_eq_true rfl) rfl ?_
  intro p e s m args below meth c A Q C hret
  unfold fX7_node at hf
  refine q_iload_n C 1 dX7_node_0 rfl ?_
  refine q_aload_n C 0 dX7_node_1 rfl ?_
  refine q_get C 0 0 dX7_node_2 rfl rfl (Nat.le_of_ble_eq_true rfl) inX7_node_X7 lkX7_node_1 rfl rfl ?_
  obtain ⟨x5, hM, hf⟩ := bd_e hf
  refine q_callVI C (List.flatten [xW cI cJ cZ cN cM xa na pa ta ba da ia rc, nW cI cJ cZ cN cM na sz sa mo li lo he, pW cI cJ cZ cN cM pa ga pz pn, gW cI cJ cZ cN cM ga gsz gsa gmo gli glo ghe]) (kX3_everyone l D cI cJ cZ cN cM na sz sa mo li lo he  x5 hM) (cwV 0 C.1.2.2.2.2 gX7_node_X3_everyone rfl rfl rfl hdX3_everyone ⟨Nat.le_of_ble_eq_true rfl, Nat.le_of_ble_eq_true rfl⟩) 2 3 rfl rfl (FrX.blk [xW cI cJ cZ cN cM xa na pa ta ba da ia rc, nW cI cJ cZ cN cM na sz sa mo li lo he, pW cI cJ cZ cN cM pa ga pz pn, gW cI cJ cZ cN cM ga gsz gsa gmo gli glo ghe] [xW cI cJ cZ cN cM xa na pa ta ba da ia rc, nW cI cJ cZ cN cM na sz sa mo li lo he, pW cI cJ cZ cN cM pa ga pz pn, gW cI cJ cZ cN cM ga gsz gsa gmo gli glo ghe] [1] [0, 2, 3] 4 rfl rfl (by decide) rfl (List.append_nil _) (List.append_nil _)) rfl rfl (Nat.le_of_ble_eq_true rfl) dX7_node_5 ⟨Nat.zero_le _, Nat.zero_le _⟩ ?_
  refine q_iconst C (-1) dX7_node_8 (by decide) ?_
  refine q_ixor C dX7_node_9 ?_
  refine q_iand C dX7_node_10 ?_
  refine q_if_eq C 17 dX7_node_11 (by decide) hf (fun hf => ?_) (fun hf => ?_)
  · refine q_iload_n C 2 dX7_node_17 rfl ?_
    refine q_iconst C 0 dX7_node_18 (by decide) ?_
    refine q_ldc C dX7_node_19 lkX7_node_3 ?_
    obtain ⟨x21, hM, hf⟩ := bd_e hf
    refine q_callSI C (List.flatten [xW cI cJ cZ cN cM xa na pa ta ba da ia rc, nW cI cJ cZ cN cM na sz sa mo li lo he, pW cI cJ cZ cN cM pa ga pz pn, gW cI cJ cZ cN cM ga gsz gsa gmo gli glo ghe]) (kX7_within l D cI cJ cZ cN cM   v2 (0 : Int32) (65535 : Int32) x21 hM) (va_cwS 3 C.1.2.2.2.2 gX7_node_X7_within rfl rfl rfl hdX7_within ⟨Nat.le_of_ble_eq_true rfl, Nat.le_of_ble_eq_true rfl⟩) FrX.none rfl rfl (Nat.le_of_ble_eq_true rfl) dX7_node_21 ⟨Nat.zero_le _, Nat.zero_le _⟩ ?_
    refine q_if_ne C 30 dX7_node_24 (by decide) hf (fun hf => ?_) (fun hf => ?_)
    · refine q_aload_n C 0 dX7_node_30 rfl ?_
      refine q_get C 0 0 dX7_node_31 rfl rfl (Nat.le_of_ble_eq_true rfl) inX7_node_X7 lkX7_node_1 rfl rfl ?_
      refine q_get C 2 0 dX7_node_34 rfl rfl (Nat.le_of_ble_eq_true rfl) inX7_node_X3 lkX7_node_5 rfl rfl ?_
      refine q_bipush C 9 dX7_node_37 (by decide) ?_
      refine q_icmp_lt C 45 dX7_node_39 (by decide) hf (fun hf => ?_) (fun hf => ?_)
      · refine q_aload_n C 0 dX7_node_45 rfl ?_
        refine q_get C 0 1 dX7_node_46 rfl rfl (Nat.le_of_ble_eq_true rfl) inX7_node_X7 lkX7_node_7 rfl rfl ?_
        refine q_aload_n C 0 dX7_node_49 rfl ?_
        refine q_get C 0 0 dX7_node_50 rfl rfl (Nat.le_of_ble_eq_true rfl) inX7_node_X7 lkX7_node_1 rfl rfl ?_
        obtain ⟨pz_53, pn_53, gsz_53, gsa_53, gmo_53, gli_53, glo_53, ghe_53, hM, hf⟩ := bd8_e hf
        refine q_callVV C (List.flatten [xW cI cJ cZ cN cM xa na pa ta ba da ia rc, nW cI cJ cZ cN cM na sz sa mo li lo he, pW cI cJ cZ cN cM pa ga pz_53 pn_53, gW cI cJ cZ cN cM ga gsz_53 gsa_53 gmo_53 gli_53 glo_53 ghe_53]) (kX4_remember l D cI cJ cZ cN cM pa ga na pz pn gsz gsa gmo gli glo ghe sz sa mo li lo he  pz_53 pn_53 gsz_53 gsa_53 gmo_53 gli_53 glo_53 ghe_53 hM) (cwV 1 C.1.2.2.2.2 gX7_node_X4_remember rfl rfl rfl hdX4_remember ⟨Nat.le_of_ble_eq_true rfl, Nat.le_of_ble_eq_true rfl⟩) 6 4 rfl rfl (FrX.blk [xW cI cJ cZ cN cM xa na pa ta ba da ia rc, nW cI cJ cZ cN cM na sz sa mo li lo he, pW cI cJ cZ cN cM pa ga pz pn, gW cI cJ cZ cN cM ga gsz gsa gmo gli glo ghe] [xW cI cJ cZ cN cM xa na pa ta ba da ia rc, nW cI cJ cZ cN cM na sz sa mo li lo he, pW cI cJ cZ cN cM pa ga pz_53 pn_53, gW cI cJ cZ cN cM ga gsz_53 gsa_53 gmo_53 gli_53 glo_53 ghe_53] [2, 3, 1] [0] 4 rfl rfl (by decide) rfl rfl rfl) rfl rfl (Nat.le_of_ble_eq_true rfl) dX7_node_53 ⟨Nat.zero_le _, Nat.zero_le _⟩ ?_
        refine q_aload_n C 0 dX7_node_56 rfl ?_
        refine q_get C 0 0 dX7_node_57 rfl rfl (Nat.le_of_ble_eq_true rfl) inX7_node_X7 lkX7_node_1 rfl rfl ?_
        refine q_iload_n C 1 dX7_node_60 rfl ?_
        refine q_iload_n C 2 dX7_node_61 rfl ?_
        obtain ⟨sz_62, li_62, lo_62, he_62, hM, hf⟩ := bd4_e hf
        refine q_callVV C (List.flatten [xW cI cJ cZ cN cM xa na pa ta ba da ia rc, nW cI cJ cZ cN cM na sz_62 sa mo li_62 lo_62 he_62, pW cI cJ cZ cN cM pa ga pz_53 pn_53, gW cI cJ cZ cN cM ga gsz_53 gsa_53 gmo_53 gli_53 glo_53 ghe_53]) (kX3_add l D cI cJ cZ cN cM na sz sa mo li lo he v1 v2 sz_62 li_62 lo_62 he_62 hM) (cwV 2 C.1.2.2.2.2 gX7_node_X3_add rfl rfl rfl hdX3_add ⟨Nat.le_of_ble_eq_true rfl, Nat.le_of_ble_eq_true rfl⟩) 2 3 rfl rfl (FrX.blk [xW cI cJ cZ cN cM xa na pa ta ba da ia rc, nW cI cJ cZ cN cM na sz sa mo li lo he, pW cI cJ cZ cN cM pa ga pz_53 pn_53, gW cI cJ cZ cN cM ga gsz_53 gsa_53 gmo_53 gli_53 glo_53 ghe_53] [xW cI cJ cZ cN cM xa na pa ta ba da ia rc, nW cI cJ cZ cN cM na sz_62 sa mo li_62 lo_62 he_62, pW cI cJ cZ cN cM pa ga pz_53 pn_53, gW cI cJ cZ cN cM ga gsz_53 gsa_53 gmo_53 gli_53 glo_53 ghe_53] [1] [0, 2, 3] 4 rfl rfl (by decide) rfl (List.append_nil _) (List.append_nil _)) rfl rfl (Nat.le_of_ble_eq_true rfl) dX7_node_62 ⟨Nat.zero_le _, Nat.zero_le _⟩ ?_
        refine q_aload_n C 0 dX7_node_65 rfl ?_
        refine q_get C 0 0 dX7_node_66 rfl rfl (Nat.le_of_ble_eq_true rfl) inX7_node_X7 lkX7_node_1 rfl rfl ?_
        refine q_get C 2 0 dX7_node_69 rfl rfl (Nat.le_of_ble_eq_true rfl) inX7_node_X3 lkX7_node_5 rfl rfl ?_
        refine q_iconst C 1 dX7_node_72 (by decide) ?_
        refine q_isub C dX7_node_73 ?_
        have hy0 := Option.some.inj hf
        clear hf
        obtain ⟨hz1, hy1⟩ := Prod.mk.inj hy0
        clear hy0
        obtain ⟨hz2, hy2⟩ := Prod.mk.inj hy1
        clear hy1
        obtain ⟨hz3, hy3⟩ := Prod.mk.inj hy2
        clear hy2
        obtain ⟨hz4, hy4⟩ := Prod.mk.inj hy3
        clear hy3
        obtain ⟨hz5, hy5⟩ := Prod.mk.inj hy4
        clear hy4
        obtain ⟨hz6, hy6⟩ := Prod.mk.inj hy5
        clear hy5
        obtain ⟨hz7, hy7⟩ := Prod.mk.inj hy6
        clear hy6
        obtain ⟨hz8, hy8⟩ := Prod.mk.inj hy7
        clear hy7
        obtain ⟨hz9, hy9⟩ := Prod.mk.inj hy8
        clear hy8
        obtain ⟨hz10, hy10⟩ := Prod.mk.inj hy9
        clear hy9
        obtain ⟨hz11, hy11⟩ := Prod.mk.inj hy10
        clear hy10
        obtain ⟨hz12, hy12⟩ := Prod.mk.inj hy11
        clear hy11
        subst hz1
        subst hz2
        subst hz3
        subst hz4
        subst hz5
        subst hz6
        subst hz7
        subst hz8
        subst hz9
        subst hz10
        subst hz11
        subst hz12
        subst hy12
        exact hret _ _ dX7_node_74 rfl
      · refine q_ldc C dX7_node_42 lkX7_node_6 ?_
        have hy0 := Option.some.inj hf
        clear hf
        obtain ⟨hz1, hy1⟩ := Prod.mk.inj hy0
        clear hy0
        obtain ⟨hz2, hy2⟩ := Prod.mk.inj hy1
        clear hy1
        obtain ⟨hz3, hy3⟩ := Prod.mk.inj hy2
        clear hy2
        obtain ⟨hz4, hy4⟩ := Prod.mk.inj hy3
        clear hy3
        obtain ⟨hz5, hy5⟩ := Prod.mk.inj hy4
        clear hy4
        obtain ⟨hz6, hy6⟩ := Prod.mk.inj hy5
        clear hy5
        obtain ⟨hz7, hy7⟩ := Prod.mk.inj hy6
        clear hy6
        obtain ⟨hz8, hy8⟩ := Prod.mk.inj hy7
        clear hy7
        obtain ⟨hz9, hy9⟩ := Prod.mk.inj hy8
        clear hy8
        obtain ⟨hz10, hy10⟩ := Prod.mk.inj hy9
        clear hy9
        obtain ⟨hz11, hy11⟩ := Prod.mk.inj hy10
        clear hy10
        obtain ⟨hz12, hy12⟩ := Prod.mk.inj hy11
        clear hy11
        subst hz1
        subst hz2
        subst hz3
        subst hz4
        subst hz5
        subst hz6
        subst hz7
        subst hz8
        subst hz9
        subst hz10
        subst hz11
        subst hz12
        subst hy12
        exact hret _ _ dX7_node_44 rfl
    · refine q_ldc C dX7_node_27 lkX7_node_4 ?_
      have hy0 := Option.some.inj hf
      clear hf
      obtain ⟨hz1, hy1⟩ := Prod.mk.inj hy0
      clear hy0
      obtain ⟨hz2, hy2⟩ := Prod.mk.inj hy1
      clear hy1
      obtain ⟨hz3, hy3⟩ := Prod.mk.inj hy2
      clear hy2
      obtain ⟨hz4, hy4⟩ := Prod.mk.inj hy3
      clear hy3
      obtain ⟨hz5, hy5⟩ := Prod.mk.inj hy4
      clear hy4
      obtain ⟨hz6, hy6⟩ := Prod.mk.inj hy5
      clear hy5
      obtain ⟨hz7, hy7⟩ := Prod.mk.inj hy6
      clear hy6
      obtain ⟨hz8, hy8⟩ := Prod.mk.inj hy7
      clear hy7
      obtain ⟨hz9, hy9⟩ := Prod.mk.inj hy8
      clear hy8
      obtain ⟨hz10, hy10⟩ := Prod.mk.inj hy9
      clear hy9
      obtain ⟨hz11, hy11⟩ := Prod.mk.inj hy10
      clear hy10
      obtain ⟨hz12, hy12⟩ := Prod.mk.inj hy11
      clear hy11
      subst hz1
      subst hz2
      subst hz3
      subst hz4
      subst hz5
      subst hz6
      subst hz7
      subst hz8
      subst hz9
      subst hz10
      subst hz11
      subst hz12
      subst hy12
      exact hret _ _ dX7_node_29 rfl
  · refine q_ldc C dX7_node_14 lkX7_node_2 ?_
    have hy0 := Option.some.inj hf
    clear hf
    obtain ⟨hz1, hy1⟩ := Prod.mk.inj hy0
    clear hy0
    obtain ⟨hz2, hy2⟩ := Prod.mk.inj hy1
    clear hy1
    obtain ⟨hz3, hy3⟩ := Prod.mk.inj hy2
    clear hy2
    obtain ⟨hz4, hy4⟩ := Prod.mk.inj hy3
    clear hy3
    obtain ⟨hz5, hy5⟩ := Prod.mk.inj hy4
    clear hy4
    obtain ⟨hz6, hy6⟩ := Prod.mk.inj hy5
    clear hy5
    obtain ⟨hz7, hy7⟩ := Prod.mk.inj hy6
    clear hy6
    obtain ⟨hz8, hy8⟩ := Prod.mk.inj hy7
    clear hy7
    obtain ⟨hz9, hy9⟩ := Prod.mk.inj hy8
    clear hy8
    obtain ⟨hz10, hy10⟩ := Prod.mk.inj hy9
    clear hy9
    obtain ⟨hz11, hy11⟩ := Prod.mk.inj hy10
    clear hy10
    obtain ⟨hz12, hy12⟩ := Prod.mk.inj hy11
    clear hy11
    subst hz1
    subst hz2
    subst hz3
    subst hz4
    subst hz5
    subst hz6
    subst hz7
    subst hz8
    subst hz9
    subst hz10
    subst hz11
    subst hz12
    subst hy12
    exact hret _ _ dX7_node_16 rfl

theorem lkX7_take_1 : Cond.fieldLink RX7 10 "TwiceHeard" "net" "LTwiceHeard$Net;" ∈ wsX7_take := List.mem_of_getElem? (i := 1) rfl
theorem lkX7_take_2 : Cond.fieldLink RX7 59 "TwiceHeard$Net" "size" "I" ∈ wsX7_take := List.mem_of_getElem? (i := 2) rfl
theorem lkX7_take_3 : Cond.constant RX7 200 (-1000000003) ∈ wsX7_take := List.mem_of_getElem? (i := 3) rfl
theorem lkX7_take_4 : Cond.fieldLink RX7 19 "TwiceHeard" "past" "LTwiceHeard$Past;" ∈ wsX7_take := List.mem_of_getElem? (i := 4) rfl
theorem inX7_take_X7 : ∀ w ∈ wsX70, w ∈ wsX7_take := fun w h => List.mem_cons_of_mem _ (List.mem_append_left _ (List.mem_append_left _ (List.mem_append_right _ h)))
theorem inX7_take_X3 : ∀ w ∈ wsX30, w ∈ wsX7_take := fun w h => List.mem_cons_of_mem _ (List.mem_append_left _ (List.mem_append_right _ h))
theorem inX7_take_X4 : ∀ w ∈ wsX40, w ∈ wsX7_take := fun w h => List.mem_cons_of_mem _ (List.mem_append_right _ h)
abbrev rmX7_take : Room := { frames := 3, cells := 0, slots := 0, locals := 82 }
theorem hdX7_take : yX7_take.cls = RX7 ∧ yX7_take.cls ≠ "java/lang/invoke/MethodHandle" ∧ yX7_take.cls ≠ "java/lang/invoke/VarHandle" ∧ (parseMethodDescriptor yX7_take.desc).map (fun d => d.parameters.length) = some 0 := by decide +kernel
def fX7_take (sz : Int32) (sa : Int32) (mo : Int32) (li : (Nat → Int32)) (lo : (Nat → Int32)) (he : (Nat → Int32)) (pz : Int32) (pn : Int32) (gsz : (Nat → Int32)) (gsa : (Nat → Int32)) (gmo : (Nat → Int32)) (gli : (Nat → Nat → Int32)) (glo : (Nat → Nat → Int32)) (ghe : (Nat → Nat → Int32))  : Option (Int32 × Int32 × (Nat → Int32) × (Nat → Int32) × (Nat → Int32) × Int32 × Int32 × (Nat → Int32) × (Nat → Int32) × (Nat → Int32) × (Nat → Nat → Int32) × (Nat → Nat → Int32) × (Nat → Nat → Int32)) :=
  if (1 : Int32) < sz then (
  bd8 (fX4_remember pz pn gsz gsa gmo gli glo ghe sz sa mo li lo he) fun pz_22 pn_22 gsz_22 gsa_22 gmo_22 gli_22 glo_22 ghe_22 =>
  bd4 (fX3_dropLatest sz li lo he) fun sz_29 li_29 lo_29 he_29 =>
  some (sz_29, sz_29, li_29, lo_29, he_29, pz_22, pn_22, gsz_22, gsa_22, gmo_22, gli_22, glo_22, ghe_22)) else (
  some ((-1000000003 : Int32), sz, li, lo, he, pz, pn, gsz, gsa, gmo, gli, glo, ghe))
set_option maxRecDepth 100000 in
set_option maxHeartbeats 4000000 in
theorem kX7_take (l : Launch) (D : va_G) (cI cJ cZ cN cM : ClassId) (xa : Nat → Nat) (na : Nat → Nat) (pa : Nat → Nat) (ta : Nat → Nat) (ba : Nat → Nat) (da : Nat → Nat) (ia : Nat → Nat) (ga : Nat → Nat) (rc : (Nat → Int64)) (sz : Int32) (sa : Int32) (mo : Int32) (li : (Nat → Int32)) (lo : (Nat → Int32)) (he : (Nat → Int32)) (pz : Int32) (pn : Int32) (gsz : (Nat → Int32)) (gsa : (Nat → Int32)) (gmo : (Nat → Int32)) (gli : (Nat → Nat → Int32)) (glo : (Nat → Nat → Int32)) (ghe : (Nat → Nat → Int32))  (r : Int32) (sz_o : Int32) (li_o : (Nat → Int32)) (lo_o : (Nat → Int32)) (he_o : (Nat → Int32)) (pz_o : Int32) (pn_o : Int32) (gsz_o : (Nat → Int32)) (gsa_o : (Nat → Int32)) (gmo_o : (Nat → Int32)) (gli_o : (Nat → Nat → Int32)) (glo_o : (Nat → Nat → Int32)) (ghe_o : (Nat → Nat → Int32)) (hf : fX7_take sz sa mo li lo he pz pn gsz gsa gmo gli glo ghe = some (r, sz_o, li_o, lo_o, he_o, pz_o, pn_o, gsz_o, gsa_o, gmo_o, gli_o, glo_o, ghe_o)) : MetI l yX7_take wsX7_take rmX7_take D (TYL cI cJ cZ cN cM) [.ref (xa 0)] (List.flatten [xW cI cJ cZ cN cM xa na pa ta ba da ia rc, nW cI cJ cZ cN cM na sz sa mo li lo he, pW cI cJ cZ cN cM pa ga pz pn, gW cI cJ cZ cN cM ga gsz gsa gmo gli glo ghe]) (List.flatten [xW cI cJ cZ cN cM xa na pa ta ba da ia rc, nW cI cJ cZ cN cM na sz_o sa mo li_o lo_o he_o, pW cI cJ cZ cN cM pa ga pz_o pn_o, gW cI cJ cZ cN cM ga gsz_o gsa_o gmo_o gli_o glo_o ghe_o]) r := by
  refine MetI.mk (cc := cX7_take) (maxL := 1) (own := RX7) (ty := .int) [(0, .ref (xa 0))] (by decide +kernel) rfl rfl (Nat.le_of_ble_eq_true rfl) rfl ?_
  intro p e s m args below meth c A Q C hret
  unfold fX7_take at hf
  refine q_aload_n C 0 dX7_take_0 rfl ?_
  refine q_get C 0 0 dX7_take_1 rfl rfl (Nat.le_of_ble_eq_true rfl) inX7_take_X7 lkX7_take_1 rfl rfl ?_
  refine q_get C 2 0 dX7_take_4 rfl rfl (Nat.le_of_ble_eq_true rfl) inX7_take_X3 lkX7_take_2 rfl rfl ?_
  refine q_iconst C 1 dX7_take_7 (by decide) ?_
  refine q_icmp_gt C 14 dX7_take_8 (by decide) hf (fun hf => ?_) (fun hf => ?_)
  · refine q_aload_n C 0 dX7_take_14 rfl ?_
    refine q_get C 0 1 dX7_take_15 rfl rfl (Nat.le_of_ble_eq_true rfl) inX7_take_X7 lkX7_take_4 rfl rfl ?_
    refine q_aload_n C 0 dX7_take_18 rfl ?_
    refine q_get C 0 0 dX7_take_19 rfl rfl (Nat.le_of_ble_eq_true rfl) inX7_take_X7 lkX7_take_1 rfl rfl ?_
    obtain ⟨pz_22, pn_22, gsz_22, gsa_22, gmo_22, gli_22, glo_22, ghe_22, hM, hf⟩ := bd8_e hf
    refine q_callVV C (List.flatten [xW cI cJ cZ cN cM xa na pa ta ba da ia rc, nW cI cJ cZ cN cM na sz sa mo li lo he, pW cI cJ cZ cN cM pa ga pz_22 pn_22, gW cI cJ cZ cN cM ga gsz_22 gsa_22 gmo_22 gli_22 glo_22 ghe_22]) (kX4_remember l D cI cJ cZ cN cM pa ga na pz pn gsz gsa gmo gli glo ghe sz sa mo li lo he  pz_22 pn_22 gsz_22 gsa_22 gmo_22 gli_22 glo_22 ghe_22 hM) (cwV 1 C.1.2.2.2.2 gX7_take_X4_remember rfl rfl rfl hdX4_remember ⟨Nat.le_of_ble_eq_true rfl, Nat.le_of_ble_eq_true rfl⟩) 6 4 rfl rfl (FrX.blk [xW cI cJ cZ cN cM xa na pa ta ba da ia rc, nW cI cJ cZ cN cM na sz sa mo li lo he, pW cI cJ cZ cN cM pa ga pz pn, gW cI cJ cZ cN cM ga gsz gsa gmo gli glo ghe] [xW cI cJ cZ cN cM xa na pa ta ba da ia rc, nW cI cJ cZ cN cM na sz sa mo li lo he, pW cI cJ cZ cN cM pa ga pz_22 pn_22, gW cI cJ cZ cN cM ga gsz_22 gsa_22 gmo_22 gli_22 glo_22 ghe_22] [2, 3, 1] [0] 4 rfl rfl (by decide) rfl rfl rfl) rfl rfl (Nat.le_of_ble_eq_true rfl) dX7_take_22 ⟨Nat.zero_le _, Nat.zero_le _⟩ ?_
    refine q_aload_n C 0 dX7_take_25 rfl ?_
    refine q_get C 0 0 dX7_take_26 rfl rfl (Nat.le_of_ble_eq_true rfl) inX7_take_X7 lkX7_take_1 rfl rfl ?_
    obtain ⟨sz_29, li_29, lo_29, he_29, hM, hf⟩ := bd4_e hf
    refine q_callVV C (List.flatten [xW cI cJ cZ cN cM xa na pa ta ba da ia rc, nW cI cJ cZ cN cM na sz_29 sa mo li_29 lo_29 he_29, pW cI cJ cZ cN cM pa ga pz_22 pn_22, gW cI cJ cZ cN cM ga gsz_22 gsa_22 gmo_22 gli_22 glo_22 ghe_22]) (kX3_dropLatest l D cI cJ cZ cN cM na sz sa mo li lo he  sz_29 li_29 lo_29 he_29 hM) (cwV 0 C.1.2.2.2.2 gX7_take_X3_dropLatest rfl rfl rfl hdX3_dropLatest ⟨Nat.le_of_ble_eq_true rfl, Nat.le_of_ble_eq_true rfl⟩) 2 3 rfl rfl (FrX.blk [xW cI cJ cZ cN cM xa na pa ta ba da ia rc, nW cI cJ cZ cN cM na sz sa mo li lo he, pW cI cJ cZ cN cM pa ga pz_22 pn_22, gW cI cJ cZ cN cM ga gsz_22 gsa_22 gmo_22 gli_22 glo_22 ghe_22] [xW cI cJ cZ cN cM xa na pa ta ba da ia rc, nW cI cJ cZ cN cM na sz_29 sa mo li_29 lo_29 he_29, pW cI cJ cZ cN cM pa ga pz_22 pn_22, gW cI cJ cZ cN cM ga gsz_22 gsa_22 gmo_22 gli_22 glo_22 ghe_22] [1] [0, 2, 3] 4 rfl rfl (by decide) rfl (List.append_nil _) (List.append_nil _)) rfl rfl (Nat.le_of_ble_eq_true rfl) dX7_take_29 ⟨Nat.zero_le _, Nat.zero_le _⟩ ?_
    refine q_aload_n C 0 dX7_take_32 rfl ?_
    refine q_get C 0 0 dX7_take_33 rfl rfl (Nat.le_of_ble_eq_true rfl) inX7_take_X7 lkX7_take_1 rfl rfl ?_
    refine q_get C 2 0 dX7_take_36 rfl rfl (Nat.le_of_ble_eq_true rfl) inX7_take_X3 lkX7_take_2 rfl rfl ?_
    have hy0 := Option.some.inj hf
    clear hf
    obtain ⟨hz1, hy1⟩ := Prod.mk.inj hy0
    clear hy0
    obtain ⟨hz2, hy2⟩ := Prod.mk.inj hy1
    clear hy1
    obtain ⟨hz3, hy3⟩ := Prod.mk.inj hy2
    clear hy2
    obtain ⟨hz4, hy4⟩ := Prod.mk.inj hy3
    clear hy3
    obtain ⟨hz5, hy5⟩ := Prod.mk.inj hy4
    clear hy4
    obtain ⟨hz6, hy6⟩ := Prod.mk.inj hy5
    clear hy5
    obtain ⟨hz7, hy7⟩ := Prod.mk.inj hy6
    clear hy6
    obtain ⟨hz8, hy8⟩ := Prod.mk.inj hy7
    clear hy7
    obtain ⟨hz9, hy9⟩ := Prod.mk.inj hy8
    clear hy8
    obtain ⟨hz10, hy10⟩ := Prod.mk.inj hy9
    clear hy9
    obtain ⟨hz11, hy11⟩ := Prod.mk.inj hy10
    clear hy10
    obtain ⟨hz12, hy12⟩ := Prod.mk.inj hy11
    clear hy11
    subst hz1
    subst hz2
    subst hz3
    subst hz4
    subst hz5
    subst hz6
    subst hz7
    subst hz8
    subst hz9
    subst hz10
    subst hz11
    subst hz12
    subst hy12
    exact hret _ _ dX7_take_39 rfl
  · refine q_ldc C dX7_take_11 lkX7_take_3 ?_
    have hy0 := Option.some.inj hf
    clear hf
    obtain ⟨hz1, hy1⟩ := Prod.mk.inj hy0
    clear hy0
    obtain ⟨hz2, hy2⟩ := Prod.mk.inj hy1
    clear hy1
    obtain ⟨hz3, hy3⟩ := Prod.mk.inj hy2
    clear hy2
    obtain ⟨hz4, hy4⟩ := Prod.mk.inj hy3
    clear hy3
    obtain ⟨hz5, hy5⟩ := Prod.mk.inj hy4
    clear hy4
    obtain ⟨hz6, hy6⟩ := Prod.mk.inj hy5
    clear hy5
    obtain ⟨hz7, hy7⟩ := Prod.mk.inj hy6
    clear hy6
    obtain ⟨hz8, hy8⟩ := Prod.mk.inj hy7
    clear hy7
    obtain ⟨hz9, hy9⟩ := Prod.mk.inj hy8
    clear hy8
    obtain ⟨hz10, hy10⟩ := Prod.mk.inj hy9
    clear hy9
    obtain ⟨hz11, hy11⟩ := Prod.mk.inj hy10
    clear hy10
    obtain ⟨hz12, hy12⟩ := Prod.mk.inj hy11
    clear hy11
    subst hz1
    subst hz2
    subst hz3
    subst hz4
    subst hz5
    subst hz6
    subst hz7
    subst hz8
    subst hz9
    subst hz10
    subst hz11
    subst hz12
    subst hy12
    exact hret _ _ dX7_take_13 rfl

theorem lkX7_link_1 : Cond.fieldLink RX7 10 "TwiceHeard" "net" "LTwiceHeard$Net;" ∈ wsX7_link := List.mem_of_getElem? (i := 1) rfl
theorem lkX7_link_2 : Cond.constant RX7 110 (-1000000001) ∈ wsX7_link := List.mem_of_getElem? (i := 2) rfl
theorem lkX7_link_3 : Cond.fieldLink RX7 19 "TwiceHeard" "past" "LTwiceHeard$Past;" ∈ wsX7_link := List.mem_of_getElem? (i := 3) rfl
theorem inX7_link_X7 : ∀ w ∈ wsX70, w ∈ wsX7_link := fun w h => List.mem_cons_of_mem _ (List.mem_append_left _ (List.mem_append_left _ (List.mem_append_right _ h)))
theorem inX7_link_X3 : ∀ w ∈ wsX30, w ∈ wsX7_link := fun w h => List.mem_cons_of_mem _ (List.mem_append_left _ (List.mem_append_right _ h))
theorem inX7_link_X4 : ∀ w ∈ wsX40, w ∈ wsX7_link := fun w h => List.mem_cons_of_mem _ (List.mem_append_right _ h)
abbrev rmX7_link : Room := { frames := 3, cells := 0, slots := 0, locals := 82 }
theorem hdX7_link : yX7_link.cls = RX7 ∧ yX7_link.cls ≠ "java/lang/invoke/MethodHandle" ∧ yX7_link.cls ≠ "java/lang/invoke/VarHandle" ∧ (parseMethodDescriptor yX7_link.desc).map (fun d => d.parameters.length) = some 2 := by decide +kernel
def fX7_link (sz : Int32) (sa : Int32) (mo : Int32) (li : (Nat → Int32)) (lo : (Nat → Int32)) (he : (Nat → Int32)) (pz : Int32) (pn : Int32) (gsz : (Nat → Int32)) (gsa : (Nat → Int32)) (gmo : (Nat → Int32)) (gli : (Nat → Nat → Int32)) (glo : (Nat → Nat → Int32)) (ghe : (Nat → Nat → Int32)) (v1 : Int32) (v2 : Int32) : Option (Int32 × (Nat → Int32) × (Nat → Int32) × Int32 × Int32 × (Nat → Int32) × (Nat → Int32) × (Nat → Int32) × (Nat → Nat → Int32) × (Nat → Nat → Int32) × (Nat → Nat → Int32)) :=
  (fX3_has sz v1).bind fun x5 =>
  jn0 (
  some ((-1000000001 : Int32), li, lo, pz, pn, gsz, gsa, gmo, gli, glo, ghe)) fun k27 =>
  if x5 = 0 then (
  k27) else (
  (fX3_has sz v2).bind fun x16 =>
  if x16 = 0 then (
  k27) else (
  if v1 = v2 then (
  k27) else (
  bd8 (fX4_remember pz pn gsz gsa gmo gli glo ghe sz sa mo li lo he) fun pz_38 pn_38 gsz_38 gsa_38 gmo_38 gli_38 glo_38 ghe_38 =>
  bd2 (fX3_turnLink li lo v1 v2) fun li_47 lo_47 =>
  (fX3_hasLink sz li_47 v1 v2).bind fun x56 =>
  if x56 = 0 then (
  some ((0 : Int32), li_47, lo_47, pz_38, pn_38, gsz_38, gsa_38, gmo_38, gli_38, glo_38, ghe_38)) else (
  some ((1 : Int32), li_47, lo_47, pz_38, pn_38, gsz_38, gsa_38, gmo_38, gli_38, glo_38, ghe_38)))))
set_option maxRecDepth 100000 in
set_option maxHeartbeats 4000000 in
theorem kX7_link (l : Launch) (D : va_G) (cI cJ cZ cN cM : ClassId) (xa : Nat → Nat) (na : Nat → Nat) (pa : Nat → Nat) (ta : Nat → Nat) (ba : Nat → Nat) (da : Nat → Nat) (ia : Nat → Nat) (ga : Nat → Nat) (rc : (Nat → Int64)) (sz : Int32) (sa : Int32) (mo : Int32) (li : (Nat → Int32)) (lo : (Nat → Int32)) (he : (Nat → Int32)) (pz : Int32) (pn : Int32) (gsz : (Nat → Int32)) (gsa : (Nat → Int32)) (gmo : (Nat → Int32)) (gli : (Nat → Nat → Int32)) (glo : (Nat → Nat → Int32)) (ghe : (Nat → Nat → Int32)) (v1 : Int32) (v2 : Int32) (r : Int32) (li_o : (Nat → Int32)) (lo_o : (Nat → Int32)) (pz_o : Int32) (pn_o : Int32) (gsz_o : (Nat → Int32)) (gsa_o : (Nat → Int32)) (gmo_o : (Nat → Int32)) (gli_o : (Nat → Nat → Int32)) (glo_o : (Nat → Nat → Int32)) (ghe_o : (Nat → Nat → Int32)) (hf : fX7_link sz sa mo li lo he pz pn gsz gsa gmo gli glo ghe v1 v2 = some (r, li_o, lo_o, pz_o, pn_o, gsz_o, gsa_o, gmo_o, gli_o, glo_o, ghe_o)) : MetI l yX7_link wsX7_link rmX7_link D (TYL cI cJ cZ cN cM) [.ref (xa 0), .int v1, .int v2] (List.flatten [xW cI cJ cZ cN cM xa na pa ta ba da ia rc, nW cI cJ cZ cN cM na sz sa mo li lo he, pW cI cJ cZ cN cM pa ga pz pn, gW cI cJ cZ cN cM ga gsz gsa gmo gli glo ghe]) (List.flatten [xW cI cJ cZ cN cM xa na pa ta ba da ia rc, nW cI cJ cZ cN cM na sz sa mo li_o lo_o he, pW cI cJ cZ cN cM pa ga pz_o pn_o, gW cI cJ cZ cN cM ga gsz_o gsa_o gmo_o gli_o glo_o ghe_o]) r := by
  refine MetI.mk (cc := cX7_link) (maxL := 3) (own := RX7) (ty := .int) [(0, .ref (xa 0)), (1, .int v1), (2, .int v2)] (by decide +kernel) rfl rfl (Nat.le_of_ble_eq_true rfl) rfl ?_
  intro p e s m args below meth c A Q C hret
  unfold fX7_link at hf
  refine q_aload_n C 0 dX7_link_0 rfl ?_
  refine q_get C 0 0 dX7_link_1 rfl rfl (Nat.le_of_ble_eq_true rfl) inX7_link_X7 lkX7_link_1 rfl rfl ?_
  refine q_iload_n C 1 dX7_link_4 rfl ?_
  obtain ⟨x5, hM, hf⟩ := bd_e hf
  refine q_callVI C (List.flatten [xW cI cJ cZ cN cM xa na pa ta ba da ia rc, nW cI cJ cZ cN cM na sz sa mo li lo he, pW cI cJ cZ cN cM pa ga pz pn, gW cI cJ cZ cN cM ga gsz gsa gmo gli glo ghe]) (kX3_has l D cI cJ cZ cN cM na sz sa mo li lo he v1 x5 hM) (cwV 1 C.1.2.2.2.2 gX7_link_X3_has rfl rfl rfl hdX3_has ⟨Nat.le_of_ble_eq_true rfl, Nat.le_of_ble_eq_true rfl⟩) 2 3 rfl rfl (FrX.blk [xW cI cJ cZ cN cM xa na pa ta ba da ia rc, nW cI cJ cZ cN cM na sz sa mo li lo he, pW cI cJ cZ cN cM pa ga pz pn, gW cI cJ cZ cN cM ga gsz gsa gmo gli glo ghe] [xW cI cJ cZ cN cM xa na pa ta ba da ia rc, nW cI cJ cZ cN cM na sz sa mo li lo he, pW cI cJ cZ cN cM pa ga pz pn, gW cI cJ cZ cN cM ga gsz gsa gmo gli glo ghe] [1] [0, 2, 3] 4 rfl rfl (by decide) rfl (List.append_nil _) (List.append_nil _)) rfl rfl (Nat.le_of_ble_eq_true rfl) dX7_link_5 ⟨Nat.zero_le _, Nat.zero_le _⟩ ?_
  refine jn0_e (WW p l e rmX7_link s m args below meth c Q D A 3 0 0 (List.flatten [xW cI cJ cZ cN cM xa na pa ta ba da ia rc, nW cI cJ cZ cN cM na sz sa mo li lo he, pW cI cJ cZ cN cM pa ga pz pn, gW cI cJ cZ cN cM ga gsz gsa gmo gli glo ghe]) [] 27 []) hf ?_ ?_
  · intro hf
    refine q_ldc C dX7_link_27 lkX7_link_2 ?_
    have hy0 := Option.some.inj hf
    clear hf
    obtain ⟨hz1, hy1⟩ := Prod.mk.inj hy0
    clear hy0
    obtain ⟨hz2, hy2⟩ := Prod.mk.inj hy1
    clear hy1
    obtain ⟨hz3, hy3⟩ := Prod.mk.inj hy2
    clear hy2
    obtain ⟨hz4, hy4⟩ := Prod.mk.inj hy3
    clear hy3
    obtain ⟨hz5, hy5⟩ := Prod.mk.inj hy4
    clear hy4
    obtain ⟨hz6, hy6⟩ := Prod.mk.inj hy5
    clear hy5
    obtain ⟨hz7, hy7⟩ := Prod.mk.inj hy6
    clear hy6
    obtain ⟨hz8, hy8⟩ := Prod.mk.inj hy7
    clear hy7
    obtain ⟨hz9, hy9⟩ := Prod.mk.inj hy8
    clear hy8
    obtain ⟨hz10, hy10⟩ := Prod.mk.inj hy9
    clear hy9
    subst hz1
    subst hz2
    subst hz3
    subst hz4
    subst hz5
    subst hz6
    subst hz7
    subst hz8
    subst hz9
    subst hz10
    subst hy10
    exact hret _ _ dX7_link_29 rfl
  intro k27 J27 hf
  refine q_if_eq C 27 dX7_link_8 (by decide) hf (fun hf => ?_) (fun hf => ?_)
  · refine q_lv [] [] rfl ?_
    exact J27  hf
  · refine q_aload_n C 0 dX7_link_11 rfl ?_
    refine q_get C 0 0 dX7_link_12 rfl rfl (Nat.le_of_ble_eq_true rfl) inX7_link_X7 lkX7_link_1 rfl rfl ?_
    refine q_iload_n C 2 dX7_link_15 rfl ?_
    obtain ⟨x16, hM, hf⟩ := bd_e hf
    refine q_callVI C (List.flatten [xW cI cJ cZ cN cM xa na pa ta ba da ia rc, nW cI cJ cZ cN cM na sz sa mo li lo he, pW cI cJ cZ cN cM pa ga pz pn, gW cI cJ cZ cN cM ga gsz gsa gmo gli glo ghe]) (kX3_has l D cI cJ cZ cN cM na sz sa mo li lo he v2 x16 hM) (cwV 1 C.1.2.2.2.2 gX7_link_X3_has rfl rfl rfl hdX3_has ⟨Nat.le_of_ble_eq_true rfl, Nat.le_of_ble_eq_true rfl⟩) 2 3 rfl rfl (FrX.blk [xW cI cJ cZ cN cM xa na pa ta ba da ia rc, nW cI cJ cZ cN cM na sz sa mo li lo he, pW cI cJ cZ cN cM pa ga pz pn, gW cI cJ cZ cN cM ga gsz gsa gmo gli glo ghe] [xW cI cJ cZ cN cM xa na pa ta ba da ia rc, nW cI cJ cZ cN cM na sz sa mo li lo he, pW cI cJ cZ cN cM pa ga pz pn, gW cI cJ cZ cN cM ga gsz gsa gmo gli glo ghe] [1] [0, 2, 3] 4 rfl rfl (by decide) rfl (List.append_nil _) (List.append_nil _)) rfl rfl (Nat.le_of_ble_eq_true rfl) dX7_link_16 ⟨Nat.zero_le _, Nat.zero_le _⟩ ?_
    refine q_if_eq C 27 dX7_link_19 (by decide) hf (fun hf => ?_) (fun hf => ?_)
    · refine q_lv [] [] rfl ?_
      exact J27  hf
    · refine q_iload_n C 1 dX7_link_22 rfl ?_
      refine q_iload_n C 2 dX7_link_23 rfl ?_
      refine q_icmp_ne C 30 dX7_link_24 (by decide) hf (fun hf => ?_) (fun hf => ?_)
      · refine q_aload_n C 0 dX7_link_30 rfl ?_
        refine q_get C 0 1 dX7_link_31 rfl rfl (Nat.le_of_ble_eq_true rfl) inX7_link_X7 lkX7_link_3 rfl rfl ?_
        refine q_aload_n C 0 dX7_link_34 rfl ?_
        refine q_get C 0 0 dX7_link_35 rfl rfl (Nat.le_of_ble_eq_true rfl) inX7_link_X7 lkX7_link_1 rfl rfl ?_
        obtain ⟨pz_38, pn_38, gsz_38, gsa_38, gmo_38, gli_38, glo_38, ghe_38, hM, hf⟩ := bd8_e hf
        refine q_callVV C (List.flatten [xW cI cJ cZ cN cM xa na pa ta ba da ia rc, nW cI cJ cZ cN cM na sz sa mo li lo he, pW cI cJ cZ cN cM pa ga pz_38 pn_38, gW cI cJ cZ cN cM ga gsz_38 gsa_38 gmo_38 gli_38 glo_38 ghe_38]) (kX4_remember l D cI cJ cZ cN cM pa ga na pz pn gsz gsa gmo gli glo ghe sz sa mo li lo he  pz_38 pn_38 gsz_38 gsa_38 gmo_38 gli_38 glo_38 ghe_38 hM) (cwV 1 C.1.2.2.2.2 gX7_link_X4_remember rfl rfl rfl hdX4_remember ⟨Nat.le_of_ble_eq_true rfl, Nat.le_of_ble_eq_true rfl⟩) 6 4 rfl rfl (FrX.blk [xW cI cJ cZ cN cM xa na pa ta ba da ia rc, nW cI cJ cZ cN cM na sz sa mo li lo he, pW cI cJ cZ cN cM pa ga pz pn, gW cI cJ cZ cN cM ga gsz gsa gmo gli glo ghe] [xW cI cJ cZ cN cM xa na pa ta ba da ia rc, nW cI cJ cZ cN cM na sz sa mo li lo he, pW cI cJ cZ cN cM pa ga pz_38 pn_38, gW cI cJ cZ cN cM ga gsz_38 gsa_38 gmo_38 gli_38 glo_38 ghe_38] [2, 3, 1] [0] 4 rfl rfl (by decide) rfl rfl rfl) rfl rfl (Nat.le_of_ble_eq_true rfl) dX7_link_38 ⟨Nat.zero_le _, Nat.zero_le _⟩ ?_
        refine q_aload_n C 0 dX7_link_41 rfl ?_
        refine q_get C 0 0 dX7_link_42 rfl rfl (Nat.le_of_ble_eq_true rfl) inX7_link_X7 lkX7_link_1 rfl rfl ?_
        refine q_iload_n C 1 dX7_link_45 rfl ?_
        refine q_iload_n C 2 dX7_link_46 rfl ?_
        obtain ⟨li_47, lo_47, hM, hf⟩ := bd2_e hf
        refine q_callVV C (List.flatten [xW cI cJ cZ cN cM xa na pa ta ba da ia rc, nW cI cJ cZ cN cM na sz sa mo li_47 lo_47 he, pW cI cJ cZ cN cM pa ga pz_38 pn_38, gW cI cJ cZ cN cM ga gsz_38 gsa_38 gmo_38 gli_38 glo_38 ghe_38]) (kX3_turnLink l D cI cJ cZ cN cM na sz sa mo li lo he v1 v2 li_47 lo_47 hM) (cwV 2 C.1.2.2.2.2 gX7_link_X3_turnLink rfl rfl rfl hdX3_turnLink ⟨Nat.le_of_ble_eq_true rfl, Nat.le_of_ble_eq_true rfl⟩) 2 3 rfl rfl (FrX.blk [xW cI cJ cZ cN cM xa na pa ta ba da ia rc, nW cI cJ cZ cN cM na sz sa mo li lo he, pW cI cJ cZ cN cM pa ga pz_38 pn_38, gW cI cJ cZ cN cM ga gsz_38 gsa_38 gmo_38 gli_38 glo_38 ghe_38] [xW cI cJ cZ cN cM xa na pa ta ba da ia rc, nW cI cJ cZ cN cM na sz sa mo li_47 lo_47 he, pW cI cJ cZ cN cM pa ga pz_38 pn_38, gW cI cJ cZ cN cM ga gsz_38 gsa_38 gmo_38 gli_38 glo_38 ghe_38] [1] [0, 2, 3] 4 rfl rfl (by decide) rfl (List.append_nil _) (List.append_nil _)) rfl rfl (Nat.le_of_ble_eq_true rfl) dX7_link_47 ⟨Nat.zero_le _, Nat.zero_le _⟩ ?_
        refine q_aload_n C 0 dX7_link_50 rfl ?_
        refine q_get C 0 0 dX7_link_51 rfl rfl (Nat.le_of_ble_eq_true rfl) inX7_link_X7 lkX7_link_1 rfl rfl ?_
        refine q_iload_n C 1 dX7_link_54 rfl ?_
        refine q_iload_n C 2 dX7_link_55 rfl ?_
        obtain ⟨x56, hM, hf⟩ := bd_e hf
        refine q_callVI C (List.flatten [xW cI cJ cZ cN cM xa na pa ta ba da ia rc, nW cI cJ cZ cN cM na sz sa mo li_47 lo_47 he, pW cI cJ cZ cN cM pa ga pz_38 pn_38, gW cI cJ cZ cN cM ga gsz_38 gsa_38 gmo_38 gli_38 glo_38 ghe_38]) (kX3_hasLink l D cI cJ cZ cN cM na sz sa mo li_47 lo_47 he v1 v2 x56 hM) (cwV 2 C.1.2.2.2.2 gX7_link_X3_hasLink rfl rfl rfl hdX3_hasLink ⟨Nat.le_of_ble_eq_true rfl, Nat.le_of_ble_eq_true rfl⟩) 2 3 rfl rfl (FrX.blk [xW cI cJ cZ cN cM xa na pa ta ba da ia rc, nW cI cJ cZ cN cM na sz sa mo li_47 lo_47 he, pW cI cJ cZ cN cM pa ga pz_38 pn_38, gW cI cJ cZ cN cM ga gsz_38 gsa_38 gmo_38 gli_38 glo_38 ghe_38] [xW cI cJ cZ cN cM xa na pa ta ba da ia rc, nW cI cJ cZ cN cM na sz sa mo li_47 lo_47 he, pW cI cJ cZ cN cM pa ga pz_38 pn_38, gW cI cJ cZ cN cM ga gsz_38 gsa_38 gmo_38 gli_38 glo_38 ghe_38] [1] [0, 2, 3] 4 rfl rfl (by decide) rfl (List.append_nil _) (List.append_nil _)) rfl rfl (Nat.le_of_ble_eq_true rfl) dX7_link_56 ⟨Nat.zero_le _, Nat.zero_le _⟩ ?_
        refine q_if_eq C 66 dX7_link_59 (by decide) hf (fun hf => ?_) (fun hf => ?_)
        · refine q_iconst C 0 dX7_link_66 (by decide) ?_
          have hy0 := Option.some.inj hf
          clear hf
          obtain ⟨hz1, hy1⟩ := Prod.mk.inj hy0
          clear hy0
          obtain ⟨hz2, hy2⟩ := Prod.mk.inj hy1
          clear hy1
          obtain ⟨hz3, hy3⟩ := Prod.mk.inj hy2
          clear hy2
          obtain ⟨hz4, hy4⟩ := Prod.mk.inj hy3
          clear hy3
          obtain ⟨hz5, hy5⟩ := Prod.mk.inj hy4
          clear hy4
          obtain ⟨hz6, hy6⟩ := Prod.mk.inj hy5
          clear hy5
          obtain ⟨hz7, hy7⟩ := Prod.mk.inj hy6
          clear hy6
          obtain ⟨hz8, hy8⟩ := Prod.mk.inj hy7
          clear hy7
          obtain ⟨hz9, hy9⟩ := Prod.mk.inj hy8
          clear hy8
          obtain ⟨hz10, hy10⟩ := Prod.mk.inj hy9
          clear hy9
          subst hz1
          subst hz2
          subst hz3
          subst hz4
          subst hz5
          subst hz6
          subst hz7
          subst hz8
          subst hz9
          subst hz10
          subst hy10
          exact hret _ _ dX7_link_67 rfl
        · refine q_iconst C 1 dX7_link_62 (by decide) ?_
          refine q_goto C 67 dX7_link_63 (by decide) ?_
          have hy0 := Option.some.inj hf
          clear hf
          obtain ⟨hz1, hy1⟩ := Prod.mk.inj hy0
          clear hy0
          obtain ⟨hz2, hy2⟩ := Prod.mk.inj hy1
          clear hy1
          obtain ⟨hz3, hy3⟩ := Prod.mk.inj hy2
          clear hy2
          obtain ⟨hz4, hy4⟩ := Prod.mk.inj hy3
          clear hy3
          obtain ⟨hz5, hy5⟩ := Prod.mk.inj hy4
          clear hy4
          obtain ⟨hz6, hy6⟩ := Prod.mk.inj hy5
          clear hy5
          obtain ⟨hz7, hy7⟩ := Prod.mk.inj hy6
          clear hy6
          obtain ⟨hz8, hy8⟩ := Prod.mk.inj hy7
          clear hy7
          obtain ⟨hz9, hy9⟩ := Prod.mk.inj hy8
          clear hy8
          obtain ⟨hz10, hy10⟩ := Prod.mk.inj hy9
          clear hy9
          subst hz1
          subst hz2
          subst hz3
          subst hz4
          subst hz5
          subst hz6
          subst hz7
          subst hz8
          subst hz9
          subst hz10
          subst hy10
          exact hret _ _ dX7_link_67 rfl
      · refine q_lv [] [] rfl ?_
        exact J27  hf

theorem lkX7_lose_1 : Cond.fieldLink RX7 10 "TwiceHeard" "net" "LTwiceHeard$Net;" ∈ wsX7_lose := List.mem_of_getElem? (i := 1) rfl
theorem lkX7_lose_2 : Cond.constant RX7 110 (-1000000001) ∈ wsX7_lose := List.mem_of_getElem? (i := 2) rfl
theorem lkX7_lose_3 : Cond.fieldLink RX7 19 "TwiceHeard" "past" "LTwiceHeard$Past;" ∈ wsX7_lose := List.mem_of_getElem? (i := 3) rfl
theorem inX7_lose_X7 : ∀ w ∈ wsX70, w ∈ wsX7_lose := fun w h => List.mem_cons_of_mem _ (List.mem_append_left _ (List.mem_append_left _ (List.mem_append_right _ h)))
theorem inX7_lose_X3 : ∀ w ∈ wsX30, w ∈ wsX7_lose := fun w h => List.mem_cons_of_mem _ (List.mem_append_left _ (List.mem_append_right _ h))
theorem inX7_lose_X4 : ∀ w ∈ wsX40, w ∈ wsX7_lose := fun w h => List.mem_cons_of_mem _ (List.mem_append_right _ h)
abbrev rmX7_lose : Room := { frames := 3, cells := 0, slots := 0, locals := 82 }
theorem hdX7_lose : yX7_lose.cls = RX7 ∧ yX7_lose.cls ≠ "java/lang/invoke/MethodHandle" ∧ yX7_lose.cls ≠ "java/lang/invoke/VarHandle" ∧ (parseMethodDescriptor yX7_lose.desc).map (fun d => d.parameters.length) = some 2 := by decide +kernel
def fX7_lose (sz : Int32) (sa : Int32) (mo : Int32) (li : (Nat → Int32)) (lo : (Nat → Int32)) (he : (Nat → Int32)) (pz : Int32) (pn : Int32) (gsz : (Nat → Int32)) (gsa : (Nat → Int32)) (gmo : (Nat → Int32)) (gli : (Nat → Nat → Int32)) (glo : (Nat → Nat → Int32)) (ghe : (Nat → Nat → Int32)) (v1 : Int32) (v2 : Int32) : Option (Int32 × (Nat → Int32) × Int32 × Int32 × (Nat → Int32) × (Nat → Int32) × (Nat → Int32) × (Nat → Nat → Int32) × (Nat → Nat → Int32) × (Nat → Nat → Int32)) :=
  (fX3_hasLink sz li v1 v2).bind fun x6 =>
  if x6 = 0 then (
  some ((-1000000001 : Int32), lo, pz, pn, gsz, gsa, gmo, gli, glo, ghe)) else (
  bd8 (fX4_remember pz pn gsz gsa gmo gli glo ghe sz sa mo li lo he) fun pz_23 pn_23 gsz_23 gsa_23 gmo_23 gli_23 glo_23 ghe_23 =>
  (fX3_turnLost lo v1 v2).bind fun lo_32 =>
  (fX3_hasLost sz lo_32 v1 v2).bind fun x41 =>
  if x41 = 0 then (
  some ((0 : Int32), lo_32, pz_23, pn_23, gsz_23, gsa_23, gmo_23, gli_23, glo_23, ghe_23)) else (
  some ((1 : Int32), lo_32, pz_23, pn_23, gsz_23, gsa_23, gmo_23, gli_23, glo_23, ghe_23)))
set_option maxRecDepth 100000 in
set_option maxHeartbeats 4000000 in
theorem kX7_lose (l : Launch) (D : va_G) (cI cJ cZ cN cM : ClassId) (xa : Nat → Nat) (na : Nat → Nat) (pa : Nat → Nat) (ta : Nat → Nat) (ba : Nat → Nat) (da : Nat → Nat) (ia : Nat → Nat) (ga : Nat → Nat) (rc : (Nat → Int64)) (sz : Int32) (sa : Int32) (mo : Int32) (li : (Nat → Int32)) (lo : (Nat → Int32)) (he : (Nat → Int32)) (pz : Int32) (pn : Int32) (gsz : (Nat → Int32)) (gsa : (Nat → Int32)) (gmo : (Nat → Int32)) (gli : (Nat → Nat → Int32)) (glo : (Nat → Nat → Int32)) (ghe : (Nat → Nat → Int32)) (v1 : Int32) (v2 : Int32) (r : Int32) (lo_o : (Nat → Int32)) (pz_o : Int32) (pn_o : Int32) (gsz_o : (Nat → Int32)) (gsa_o : (Nat → Int32)) (gmo_o : (Nat → Int32)) (gli_o : (Nat → Nat → Int32)) (glo_o : (Nat → Nat → Int32)) (ghe_o : (Nat → Nat → Int32)) (hf : fX7_lose sz sa mo li lo he pz pn gsz gsa gmo gli glo ghe v1 v2 = some (r, lo_o, pz_o, pn_o, gsz_o, gsa_o, gmo_o, gli_o, glo_o, ghe_o)) : MetI l yX7_lose wsX7_lose rmX7_lose D (TYL cI cJ cZ cN cM) [.ref (xa 0), .int v1, .int v2] (List.flatten [xW cI cJ cZ cN cM xa na pa ta ba da ia rc, nW cI cJ cZ cN cM na sz sa mo li lo he, pW cI cJ cZ cN cM pa ga pz pn, gW cI cJ cZ cN cM ga gsz gsa gmo gli glo ghe]) (List.flatten [xW cI cJ cZ cN cM xa na pa ta ba da ia rc, nW cI cJ cZ cN cM na sz sa mo li lo_o he, pW cI cJ cZ cN cM pa ga pz_o pn_o, gW cI cJ cZ cN cM ga gsz_o gsa_o gmo_o gli_o glo_o ghe_o]) r := by
  refine MetI.mk (cc := cX7_lose) (maxL := 3) (own := RX7) (ty := .int) [(0, .ref (xa 0)), (1, .int v1), (2, .int v2)] (by decide +kernel) rfl rfl (Nat.le_of_ble_eq_true rfl) rfl ?_
  intro p e s m args below meth c A Q C hret
  unfold fX7_lose at hf
  refine q_aload_n C 0 dX7_lose_0 rfl ?_
  refine q_get C 0 0 dX7_lose_1 rfl rfl (Nat.le_of_ble_eq_true rfl) inX7_lose_X7 lkX7_lose_1 rfl rfl ?_
  refine q_iload_n C 1 dX7_lose_4 rfl ?_
  refine q_iload_n C 2 dX7_lose_5 rfl ?_
  obtain ⟨x6, hM, hf⟩ := bd_e hf
  refine q_callVI C (List.flatten [xW cI cJ cZ cN cM xa na pa ta ba da ia rc, nW cI cJ cZ cN cM na sz sa mo li lo he, pW cI cJ cZ cN cM pa ga pz pn, gW cI cJ cZ cN cM ga gsz gsa gmo gli glo ghe]) (kX3_hasLink l D cI cJ cZ cN cM na sz sa mo li lo he v1 v2 x6 hM) (cwV 2 C.1.2.2.2.2 gX7_lose_X3_hasLink rfl rfl rfl hdX3_hasLink ⟨Nat.le_of_ble_eq_true rfl, Nat.le_of_ble_eq_true rfl⟩) 2 3 rfl rfl (FrX.blk [xW cI cJ cZ cN cM xa na pa ta ba da ia rc, nW cI cJ cZ cN cM na sz sa mo li lo he, pW cI cJ cZ cN cM pa ga pz pn, gW cI cJ cZ cN cM ga gsz gsa gmo gli glo ghe] [xW cI cJ cZ cN cM xa na pa ta ba da ia rc, nW cI cJ cZ cN cM na sz sa mo li lo he, pW cI cJ cZ cN cM pa ga pz pn, gW cI cJ cZ cN cM ga gsz gsa gmo gli glo ghe] [1] [0, 2, 3] 4 rfl rfl (by decide) rfl (List.append_nil _) (List.append_nil _)) rfl rfl (Nat.le_of_ble_eq_true rfl) dX7_lose_6 ⟨Nat.zero_le _, Nat.zero_le _⟩ ?_
  refine q_if_ne C 15 dX7_lose_9 (by decide) hf (fun hf => ?_) (fun hf => ?_)
  · refine q_aload_n C 0 dX7_lose_15 rfl ?_
    refine q_get C 0 1 dX7_lose_16 rfl rfl (Nat.le_of_ble_eq_true rfl) inX7_lose_X7 lkX7_lose_3 rfl rfl ?_
    refine q_aload_n C 0 dX7_lose_19 rfl ?_
    refine q_get C 0 0 dX7_lose_20 rfl rfl (Nat.le_of_ble_eq_true rfl) inX7_lose_X7 lkX7_lose_1 rfl rfl ?_
    obtain ⟨pz_23, pn_23, gsz_23, gsa_23, gmo_23, gli_23, glo_23, ghe_23, hM, hf⟩ := bd8_e hf
    refine q_callVV C (List.flatten [xW cI cJ cZ cN cM xa na pa ta ba da ia rc, nW cI cJ cZ cN cM na sz sa mo li lo he, pW cI cJ cZ cN cM pa ga pz_23 pn_23, gW cI cJ cZ cN cM ga gsz_23 gsa_23 gmo_23 gli_23 glo_23 ghe_23]) (kX4_remember l D cI cJ cZ cN cM pa ga na pz pn gsz gsa gmo gli glo ghe sz sa mo li lo he  pz_23 pn_23 gsz_23 gsa_23 gmo_23 gli_23 glo_23 ghe_23 hM) (cwV 1 C.1.2.2.2.2 gX7_lose_X4_remember rfl rfl rfl hdX4_remember ⟨Nat.le_of_ble_eq_true rfl, Nat.le_of_ble_eq_true rfl⟩) 6 4 rfl rfl (FrX.blk [xW cI cJ cZ cN cM xa na pa ta ba da ia rc, nW cI cJ cZ cN cM na sz sa mo li lo he, pW cI cJ cZ cN cM pa ga pz pn, gW cI cJ cZ cN cM ga gsz gsa gmo gli glo ghe] [xW cI cJ cZ cN cM xa na pa ta ba da ia rc, nW cI cJ cZ cN cM na sz sa mo li lo he, pW cI cJ cZ cN cM pa ga pz_23 pn_23, gW cI cJ cZ cN cM ga gsz_23 gsa_23 gmo_23 gli_23 glo_23 ghe_23] [2, 3, 1] [0] 4 rfl rfl (by decide) rfl rfl rfl) rfl rfl (Nat.le_of_ble_eq_true rfl) dX7_lose_23 ⟨Nat.zero_le _, Nat.zero_le _⟩ ?_
    refine q_aload_n C 0 dX7_lose_26 rfl ?_
    refine q_get C 0 0 dX7_lose_27 rfl rfl (Nat.le_of_ble_eq_true rfl) inX7_lose_X7 lkX7_lose_1 rfl rfl ?_
    refine q_iload_n C 1 dX7_lose_30 rfl ?_
    refine q_iload_n C 2 dX7_lose_31 rfl ?_
    obtain ⟨lo_32, hM, hf⟩ := bd_e hf
    refine q_callVV C (List.flatten [xW cI cJ cZ cN cM xa na pa ta ba da ia rc, nW cI cJ cZ cN cM na sz sa mo li lo_32 he, pW cI cJ cZ cN cM pa ga pz_23 pn_23, gW cI cJ cZ cN cM ga gsz_23 gsa_23 gmo_23 gli_23 glo_23 ghe_23]) (kX3_turnLost l D cI cJ cZ cN cM na sz sa mo li lo he v1 v2 lo_32 hM) (cwV 2 C.1.2.2.2.2 gX7_lose_X3_turnLost rfl rfl rfl hdX3_turnLost ⟨Nat.le_of_ble_eq_true rfl, Nat.le_of_ble_eq_true rfl⟩) 2 3 rfl rfl (FrX.blk [xW cI cJ cZ cN cM xa na pa ta ba da ia rc, nW cI cJ cZ cN cM na sz sa mo li lo he, pW cI cJ cZ cN cM pa ga pz_23 pn_23, gW cI cJ cZ cN cM ga gsz_23 gsa_23 gmo_23 gli_23 glo_23 ghe_23] [xW cI cJ cZ cN cM xa na pa ta ba da ia rc, nW cI cJ cZ cN cM na sz sa mo li lo_32 he, pW cI cJ cZ cN cM pa ga pz_23 pn_23, gW cI cJ cZ cN cM ga gsz_23 gsa_23 gmo_23 gli_23 glo_23 ghe_23] [1] [0, 2, 3] 4 rfl rfl (by decide) rfl (List.append_nil _) (List.append_nil _)) rfl rfl (Nat.le_of_ble_eq_true rfl) dX7_lose_32 ⟨Nat.zero_le _, Nat.zero_le _⟩ ?_
    refine q_aload_n C 0 dX7_lose_35 rfl ?_
    refine q_get C 0 0 dX7_lose_36 rfl rfl (Nat.le_of_ble_eq_true rfl) inX7_lose_X7 lkX7_lose_1 rfl rfl ?_
    refine q_iload_n C 1 dX7_lose_39 rfl ?_
    refine q_iload_n C 2 dX7_lose_40 rfl ?_
    obtain ⟨x41, hM, hf⟩ := bd_e hf
    refine q_callVI C (List.flatten [xW cI cJ cZ cN cM xa na pa ta ba da ia rc, nW cI cJ cZ cN cM na sz sa mo li lo_32 he, pW cI cJ cZ cN cM pa ga pz_23 pn_23, gW cI cJ cZ cN cM ga gsz_23 gsa_23 gmo_23 gli_23 glo_23 ghe_23]) (kX3_hasLost l D cI cJ cZ cN cM na sz sa mo li lo_32 he v1 v2 x41 hM) (cwV 2 C.1.2.2.2.2 gX7_lose_X3_hasLost rfl rfl rfl hdX3_hasLost ⟨Nat.le_of_ble_eq_true rfl, Nat.le_of_ble_eq_true rfl⟩) 2 3 rfl rfl (FrX.blk [xW cI cJ cZ cN cM xa na pa ta ba da ia rc, nW cI cJ cZ cN cM na sz sa mo li lo_32 he, pW cI cJ cZ cN cM pa ga pz_23 pn_23, gW cI cJ cZ cN cM ga gsz_23 gsa_23 gmo_23 gli_23 glo_23 ghe_23] [xW cI cJ cZ cN cM xa na pa ta ba da ia rc, nW cI cJ cZ cN cM na sz sa mo li lo_32 he, pW cI cJ cZ cN cM pa ga pz_23 pn_23, gW cI cJ cZ cN cM ga gsz_23 gsa_23 gmo_23 gli_23 glo_23 ghe_23] [1] [0, 2, 3] 4 rfl rfl (by decide) rfl (List.append_nil _) (List.append_nil _)) rfl rfl (Nat.le_of_ble_eq_true rfl) dX7_lose_41 ⟨Nat.zero_le _, Nat.zero_le _⟩ ?_
    refine q_if_eq C 51 dX7_lose_44 (by decide) hf (fun hf => ?_) (fun hf => ?_)
    · refine q_iconst C 0 dX7_lose_51 (by decide) ?_
      have hy0 := Option.some.inj hf
      clear hf
      obtain ⟨hz1, hy1⟩ := Prod.mk.inj hy0
      clear hy0
      obtain ⟨hz2, hy2⟩ := Prod.mk.inj hy1
      clear hy1
      obtain ⟨hz3, hy3⟩ := Prod.mk.inj hy2
      clear hy2
      obtain ⟨hz4, hy4⟩ := Prod.mk.inj hy3
      clear hy3
      obtain ⟨hz5, hy5⟩ := Prod.mk.inj hy4
      clear hy4
      obtain ⟨hz6, hy6⟩ := Prod.mk.inj hy5
      clear hy5
      obtain ⟨hz7, hy7⟩ := Prod.mk.inj hy6
      clear hy6
      obtain ⟨hz8, hy8⟩ := Prod.mk.inj hy7
      clear hy7
      obtain ⟨hz9, hy9⟩ := Prod.mk.inj hy8
      clear hy8
      subst hz1
      subst hz2
      subst hz3
      subst hz4
      subst hz5
      subst hz6
      subst hz7
      subst hz8
      subst hz9
      subst hy9
      exact hret _ _ dX7_lose_52 rfl
    · refine q_iconst C 1 dX7_lose_47 (by decide) ?_
      refine q_goto C 52 dX7_lose_48 (by decide) ?_
      have hy0 := Option.some.inj hf
      clear hf
      obtain ⟨hz1, hy1⟩ := Prod.mk.inj hy0
      clear hy0
      obtain ⟨hz2, hy2⟩ := Prod.mk.inj hy1
      clear hy1
      obtain ⟨hz3, hy3⟩ := Prod.mk.inj hy2
      clear hy2
      obtain ⟨hz4, hy4⟩ := Prod.mk.inj hy3
      clear hy3
      obtain ⟨hz5, hy5⟩ := Prod.mk.inj hy4
      clear hy4
      obtain ⟨hz6, hy6⟩ := Prod.mk.inj hy5
      clear hy5
      obtain ⟨hz7, hy7⟩ := Prod.mk.inj hy6
      clear hy6
      obtain ⟨hz8, hy8⟩ := Prod.mk.inj hy7
      clear hy7
      obtain ⟨hz9, hy9⟩ := Prod.mk.inj hy8
      clear hy8
      subst hz1
      subst hz2
      subst hz3
      subst hz4
      subst hz5
      subst hz6
      subst hz7
      subst hz8
      subst hz9
      subst hy9
      exact hret _ _ dX7_lose_52 rfl
  · refine q_ldc C dX7_lose_12 lkX7_lose_2 ?_
    have hy0 := Option.some.inj hf
    clear hf
    obtain ⟨hz1, hy1⟩ := Prod.mk.inj hy0
    clear hy0
    obtain ⟨hz2, hy2⟩ := Prod.mk.inj hy1
    clear hy1
    obtain ⟨hz3, hy3⟩ := Prod.mk.inj hy2
    clear hy2
    obtain ⟨hz4, hy4⟩ := Prod.mk.inj hy3
    clear hy3
    obtain ⟨hz5, hy5⟩ := Prod.mk.inj hy4
    clear hy4
    obtain ⟨hz6, hy6⟩ := Prod.mk.inj hy5
    clear hy5
    obtain ⟨hz7, hy7⟩ := Prod.mk.inj hy6
    clear hy6
    obtain ⟨hz8, hy8⟩ := Prod.mk.inj hy7
    clear hy7
    obtain ⟨hz9, hy9⟩ := Prod.mk.inj hy8
    clear hy8
    subst hz1
    subst hz2
    subst hz3
    subst hz4
    subst hz5
    subst hz6
    subst hz7
    subst hz8
    subst hz9
    subst hy9
    exact hret _ _ dX7_lose_14 rfl

theorem lkX7_hear_1 : Cond.fieldLink RX7 10 "TwiceHeard" "net" "LTwiceHeard$Net;" ∈ wsX7_hear := List.mem_of_getElem? (i := 1) rfl
theorem lkX7_hear_2 : Cond.constant RX7 110 (-1000000001) ∈ wsX7_hear := List.mem_of_getElem? (i := 2) rfl
theorem lkX7_hear_3 : Cond.constant RX7 191 (65535) ∈ wsX7_hear := List.mem_of_getElem? (i := 3) rfl
theorem lkX7_hear_4 : Cond.constant RX7 105 (-1000000002) ∈ wsX7_hear := List.mem_of_getElem? (i := 4) rfl
theorem lkX7_hear_5 : Cond.fieldLink RX7 19 "TwiceHeard" "past" "LTwiceHeard$Past;" ∈ wsX7_hear := List.mem_of_getElem? (i := 5) rfl
theorem lkX7_hear_6 : Cond.fieldLink RX7 118 "TwiceHeard$Net" "heard" "[I" ∈ wsX7_hear := List.mem_of_getElem? (i := 6) rfl
theorem inX7_hear_X7 : ∀ w ∈ wsX70, w ∈ wsX7_hear := fun w h => List.mem_cons_of_mem _ (List.mem_append_left _ (List.mem_append_left _ (List.mem_append_right _ h)))
theorem inX7_hear_X3 : ∀ w ∈ wsX30, w ∈ wsX7_hear := fun w h => List.mem_cons_of_mem _ (List.mem_append_left _ (List.mem_append_right _ h))
theorem inX7_hear_X4 : ∀ w ∈ wsX40, w ∈ wsX7_hear := fun w h => List.mem_cons_of_mem _ (List.mem_append_right _ h)
abbrev rmX7_hear : Room := { frames := 3, cells := 0, slots := 0, locals := 82 }
theorem hdX7_hear : yX7_hear.cls = RX7 ∧ yX7_hear.cls ≠ "java/lang/invoke/MethodHandle" ∧ yX7_hear.cls ≠ "java/lang/invoke/VarHandle" ∧ (parseMethodDescriptor yX7_hear.desc).map (fun d => d.parameters.length) = some 2 := by decide +kernel
def fX7_hear (sz : Int32) (sa : Int32) (mo : Int32) (li : (Nat → Int32)) (lo : (Nat → Int32)) (he : (Nat → Int32)) (pz : Int32) (pn : Int32) (gsz : (Nat → Int32)) (gsa : (Nat → Int32)) (gmo : (Nat → Int32)) (gli : (Nat → Nat → Int32)) (glo : (Nat → Nat → Int32)) (ghe : (Nat → Nat → Int32)) (v1 : Int32) (v2 : Int32) : Option (Int32 × (Nat → Int32) × Int32 × Int32 × (Nat → Int32) × (Nat → Int32) × (Nat → Int32) × (Nat → Nat → Int32) × (Nat → Nat → Int32) × (Nat → Nat → Int32)) :=
  (fX3_has sz v1).bind fun x5 =>
  if x5 = 0 then (
  some ((-1000000001 : Int32), he, pz, pn, gsz, gsa, gmo, gli, glo, ghe)) else (
  (fX7_within v2 (0 : Int32) (65535 : Int32)).bind fun x18 =>
  if x18 = 0 then (
  some ((-1000000002 : Int32), he, pz, pn, gsz, gsa, gmo, gli, glo, ghe)) else (
  bd8 (fX4_remember pz pn gsz gsa gmo gli glo ghe sz sa mo li lo he) fun pz_35 pn_35 gsz_35 gsa_35 gmo_35 gli_35 glo_35 ghe_35 =>
  (rdI 9 he v1).bind fun x46 =>
  (wrI 9 he v1 v2).bind fun he_57 =>
  some (x46, he_57, pz_35, pn_35, gsz_35, gsa_35, gmo_35, gli_35, glo_35, ghe_35)))
set_option maxRecDepth 100000 in
set_option maxHeartbeats 4000000 in
theorem kX7_hear (l : Launch) (D : va_G) (cI cJ cZ cN cM : ClassId) (xa : Nat → Nat) (na : Nat → Nat) (pa : Nat → Nat) (ta : Nat → Nat) (ba : Nat → Nat) (da : Nat → Nat) (ia : Nat → Nat) (ga : Nat → Nat) (rc : (Nat → Int64)) (sz : Int32) (sa : Int32) (mo : Int32) (li : (Nat → Int32)) (lo : (Nat → Int32)) (he : (Nat → Int32)) (pz : Int32) (pn : Int32) (gsz : (Nat → Int32)) (gsa : (Nat → Int32)) (gmo : (Nat → Int32)) (gli : (Nat → Nat → Int32)) (glo : (Nat → Nat → Int32)) (ghe : (Nat → Nat → Int32)) (v1 : Int32) (v2 : Int32) (r : Int32) (he_o : (Nat → Int32)) (pz_o : Int32) (pn_o : Int32) (gsz_o : (Nat → Int32)) (gsa_o : (Nat → Int32)) (gmo_o : (Nat → Int32)) (gli_o : (Nat → Nat → Int32)) (glo_o : (Nat → Nat → Int32)) (ghe_o : (Nat → Nat → Int32)) (hf : fX7_hear sz sa mo li lo he pz pn gsz gsa gmo gli glo ghe v1 v2 = some (r, he_o, pz_o, pn_o, gsz_o, gsa_o, gmo_o, gli_o, glo_o, ghe_o)) : MetI l yX7_hear wsX7_hear rmX7_hear D (TYL cI cJ cZ cN cM) [.ref (xa 0), .int v1, .int v2] (List.flatten [xW cI cJ cZ cN cM xa na pa ta ba da ia rc, nW cI cJ cZ cN cM na sz sa mo li lo he, pW cI cJ cZ cN cM pa ga pz pn, gW cI cJ cZ cN cM ga gsz gsa gmo gli glo ghe]) (List.flatten [xW cI cJ cZ cN cM xa na pa ta ba da ia rc, nW cI cJ cZ cN cM na sz sa mo li lo he_o, pW cI cJ cZ cN cM pa ga pz_o pn_o, gW cI cJ cZ cN cM ga gsz_o gsa_o gmo_o gli_o glo_o ghe_o]) r := by
  refine MetI.mk (cc := cX7_hear) (maxL := 4) (own := RX7) (ty := .int) [(0, .ref (xa 0)), (1, .int v1), (2, .int v2)] (by decide +kernel) rfl rfl (Nat.le_of_ble_eq_true rfl) rfl ?_
  intro p e s m args below meth c A Q C hret
  unfold fX7_hear at hf
  refine q_aload_n C 0 dX7_hear_0 rfl ?_
  refine q_get C 0 0 dX7_hear_1 rfl rfl (Nat.le_of_ble_eq_true rfl) inX7_hear_X7 lkX7_hear_1 rfl rfl ?_
  refine q_iload_n C 1 dX7_hear_4 rfl ?_
  obtain ⟨x5, hM, hf⟩ := bd_e hf
  refine q_callVI C (List.flatten [xW cI cJ cZ cN cM xa na pa ta ba da ia rc, nW cI cJ cZ cN cM na sz sa mo li lo he, pW cI cJ cZ cN cM pa ga pz pn, gW cI cJ cZ cN cM ga gsz gsa gmo gli glo ghe]) (kX3_has l D cI cJ cZ cN cM na sz sa mo li lo he v1 x5 hM) (cwV 1 C.1.2.2.2.2 gX7_hear_X3_has rfl rfl rfl hdX3_has ⟨Nat.le_of_ble_eq_true rfl, Nat.le_of_ble_eq_true rfl⟩) 2 3 rfl rfl (FrX.blk [xW cI cJ cZ cN cM xa na pa ta ba da ia rc, nW cI cJ cZ cN cM na sz sa mo li lo he, pW cI cJ cZ cN cM pa ga pz pn, gW cI cJ cZ cN cM ga gsz gsa gmo gli glo ghe] [xW cI cJ cZ cN cM xa na pa ta ba da ia rc, nW cI cJ cZ cN cM na sz sa mo li lo he, pW cI cJ cZ cN cM pa ga pz pn, gW cI cJ cZ cN cM ga gsz gsa gmo gli glo ghe] [1] [0, 2, 3] 4 rfl rfl (by decide) rfl (List.append_nil _) (List.append_nil _)) rfl rfl (Nat.le_of_ble_eq_true rfl) dX7_hear_5 ⟨Nat.zero_le _, Nat.zero_le _⟩ ?_
  refine q_if_ne C 14 dX7_hear_8 (by decide) hf (fun hf => ?_) (fun hf => ?_)
  · refine q_iload_n C 2 dX7_hear_14 rfl ?_
    refine q_iconst C 0 dX7_hear_15 (by decide) ?_
    refine q_ldc C dX7_hear_16 lkX7_hear_3 ?_
    obtain ⟨x18, hM, hf⟩ := bd_e hf
    refine q_callSI C (List.flatten [xW cI cJ cZ cN cM xa na pa ta ba da ia rc, nW cI cJ cZ cN cM na sz sa mo li lo he, pW cI cJ cZ cN cM pa ga pz pn, gW cI cJ cZ cN cM ga gsz gsa gmo gli glo ghe]) (kX7_within l D cI cJ cZ cN cM   v2 (0 : Int32) (65535 : Int32) x18 hM) (va_cwS 3 C.1.2.2.2.2 gX7_hear_X7_within rfl rfl rfl hdX7_within ⟨Nat.le_of_ble_eq_true rfl, Nat.le_of_ble_eq_true rfl⟩) FrX.none rfl rfl (Nat.le_of_ble_eq_true rfl) dX7_hear_18 ⟨Nat.zero_le _, Nat.zero_le _⟩ ?_
    refine q_if_ne C 27 dX7_hear_21 (by decide) hf (fun hf => ?_) (fun hf => ?_)
    · refine q_aload_n C 0 dX7_hear_27 rfl ?_
      refine q_get C 0 1 dX7_hear_28 rfl rfl (Nat.le_of_ble_eq_true rfl) inX7_hear_X7 lkX7_hear_5 rfl rfl ?_
      refine q_aload_n C 0 dX7_hear_31 rfl ?_
      refine q_get C 0 0 dX7_hear_32 rfl rfl (Nat.le_of_ble_eq_true rfl) inX7_hear_X7 lkX7_hear_1 rfl rfl ?_
      obtain ⟨pz_35, pn_35, gsz_35, gsa_35, gmo_35, gli_35, glo_35, ghe_35, hM, hf⟩ := bd8_e hf
      refine q_callVV C (List.flatten [xW cI cJ cZ cN cM xa na pa ta ba da ia rc, nW cI cJ cZ cN cM na sz sa mo li lo he, pW cI cJ cZ cN cM pa ga pz_35 pn_35, gW cI cJ cZ cN cM ga gsz_35 gsa_35 gmo_35 gli_35 glo_35 ghe_35]) (kX4_remember l D cI cJ cZ cN cM pa ga na pz pn gsz gsa gmo gli glo ghe sz sa mo li lo he  pz_35 pn_35 gsz_35 gsa_35 gmo_35 gli_35 glo_35 ghe_35 hM) (cwV 1 C.1.2.2.2.2 gX7_hear_X4_remember rfl rfl rfl hdX4_remember ⟨Nat.le_of_ble_eq_true rfl, Nat.le_of_ble_eq_true rfl⟩) 6 4 rfl rfl (FrX.blk [xW cI cJ cZ cN cM xa na pa ta ba da ia rc, nW cI cJ cZ cN cM na sz sa mo li lo he, pW cI cJ cZ cN cM pa ga pz pn, gW cI cJ cZ cN cM ga gsz gsa gmo gli glo ghe] [xW cI cJ cZ cN cM xa na pa ta ba da ia rc, nW cI cJ cZ cN cM na sz sa mo li lo he, pW cI cJ cZ cN cM pa ga pz_35 pn_35, gW cI cJ cZ cN cM ga gsz_35 gsa_35 gmo_35 gli_35 glo_35 ghe_35] [2, 3, 1] [0] 4 rfl rfl (by decide) rfl rfl rfl) rfl rfl (Nat.le_of_ble_eq_true rfl) dX7_hear_35 ⟨Nat.zero_le _, Nat.zero_le _⟩ ?_
      refine q_aload_n C 0 dX7_hear_38 rfl ?_
      refine q_get C 0 0 dX7_hear_39 rfl rfl (Nat.le_of_ble_eq_true rfl) inX7_hear_X7 lkX7_hear_1 rfl rfl ?_
      refine q_get C 2 5 dX7_hear_42 rfl rfl (Nat.le_of_ble_eq_true rfl) inX7_hear_X3 lkX7_hear_6 rfl rfl ?_
      refine q_iload_n C 1 dX7_hear_45 rfl ?_
      refine q_iald C 5 0 dX7_hear_46 rfl rfl hf (fun x46 hf => ?_)
      refine q_istore_n C [(3, .int x46), (0, .ref (xa 0)), (1, .int v1), (2, .int v2)] dX7_hear_47 (by decide) rfl ?_
      refine q_aload_n C 1 dX7_hear_48 rfl ?_
      refine q_get C 0 0 dX7_hear_49 rfl rfl (Nat.le_of_ble_eq_true rfl) inX7_hear_X7 lkX7_hear_1 rfl rfl ?_
      refine q_get C 2 5 dX7_hear_52 rfl rfl (Nat.le_of_ble_eq_true rfl) inX7_hear_X3 lkX7_hear_6 rfl rfl ?_
      refine q_iload_n C 2 dX7_hear_55 rfl ?_
      refine q_iload_n C 3 dX7_hear_56 rfl ?_
      refine q_iast C 5 0 (fun he_57 => List.flatten [xW cI cJ cZ cN cM xa na pa ta ba da ia rc, nW cI cJ cZ cN cM na sz sa mo li lo he_57, pW cI cJ cZ cN cM pa ga pz_35 pn_35, gW cI cJ cZ cN cM ga gsz_35 gsa_35 gmo_35 gli_35 glo_35 ghe_35]) dX7_hear_57 rfl rfl (fun _ => rfl) hf (fun he_57 hf => ?_)
      refine q_iload_n C 0 dX7_hear_58 rfl ?_
      have hy0 := Option.some.inj hf
      clear hf
      obtain ⟨hz1, hy1⟩ := Prod.mk.inj hy0
      clear hy0
      obtain ⟨hz2, hy2⟩ := Prod.mk.inj hy1
      clear hy1
      obtain ⟨hz3, hy3⟩ := Prod.mk.inj hy2
      clear hy2
      obtain ⟨hz4, hy4⟩ := Prod.mk.inj hy3
      clear hy3
      obtain ⟨hz5, hy5⟩ := Prod.mk.inj hy4
      clear hy4
      obtain ⟨hz6, hy6⟩ := Prod.mk.inj hy5
      clear hy5
      obtain ⟨hz7, hy7⟩ := Prod.mk.inj hy6
      clear hy6
      obtain ⟨hz8, hy8⟩ := Prod.mk.inj hy7
      clear hy7
      obtain ⟨hz9, hy9⟩ := Prod.mk.inj hy8
      clear hy8
      subst hz1
      subst hz2
      subst hz3
      subst hz4
      subst hz5
      subst hz6
      subst hz7
      subst hz8
      subst hz9
      subst hy9
      exact hret _ _ dX7_hear_59 rfl
    · refine q_ldc C dX7_hear_24 lkX7_hear_4 ?_
      have hy0 := Option.some.inj hf
      clear hf
      obtain ⟨hz1, hy1⟩ := Prod.mk.inj hy0
      clear hy0
      obtain ⟨hz2, hy2⟩ := Prod.mk.inj hy1
      clear hy1
      obtain ⟨hz3, hy3⟩ := Prod.mk.inj hy2
      clear hy2
      obtain ⟨hz4, hy4⟩ := Prod.mk.inj hy3
      clear hy3
      obtain ⟨hz5, hy5⟩ := Prod.mk.inj hy4
      clear hy4
      obtain ⟨hz6, hy6⟩ := Prod.mk.inj hy5
      clear hy5
      obtain ⟨hz7, hy7⟩ := Prod.mk.inj hy6
      clear hy6
      obtain ⟨hz8, hy8⟩ := Prod.mk.inj hy7
      clear hy7
      obtain ⟨hz9, hy9⟩ := Prod.mk.inj hy8
      clear hy8
      subst hz1
      subst hz2
      subst hz3
      subst hz4
      subst hz5
      subst hz6
      subst hz7
      subst hz8
      subst hz9
      subst hy9
      exact hret _ _ dX7_hear_26 rfl
  · refine q_ldc C dX7_hear_11 lkX7_hear_2 ?_
    have hy0 := Option.some.inj hf
    clear hf
    obtain ⟨hz1, hy1⟩ := Prod.mk.inj hy0
    clear hy0
    obtain ⟨hz2, hy2⟩ := Prod.mk.inj hy1
    clear hy1
    obtain ⟨hz3, hy3⟩ := Prod.mk.inj hy2
    clear hy2
    obtain ⟨hz4, hy4⟩ := Prod.mk.inj hy3
    clear hy3
    obtain ⟨hz5, hy5⟩ := Prod.mk.inj hy4
    clear hy4
    obtain ⟨hz6, hy6⟩ := Prod.mk.inj hy5
    clear hy5
    obtain ⟨hz7, hy7⟩ := Prod.mk.inj hy6
    clear hy6
    obtain ⟨hz8, hy8⟩ := Prod.mk.inj hy7
    clear hy7
    obtain ⟨hz9, hy9⟩ := Prod.mk.inj hy8
    clear hy8
    subst hz1
    subst hz2
    subst hz3
    subst hz4
    subst hz5
    subst hz6
    subst hz7
    subst hz8
    subst hz9
    subst hy9
    exact hret _ _ dX7_hear_13 rfl
