theorem lkX7_guessOf_1 : Cond.fieldLink RX7 26 "TwiceHeard" "telling" "LTwiceHeard$Telling;" ∈ wsX7_guessOf := List.mem_of_getElem? (i := 1) rfl
theorem lkX7_guessOf_2 : Cond.fieldLink RX7 111 "TwiceHeard$Telling" "ring" "[I" ∈ wsX7_guessOf := List.mem_of_getElem? (i := 2) rfl
theorem lkX7_guessOf_3 : Cond.fieldLink RX7 154 "TwiceHeard$Telling" "held" "[J" ∈ wsX7_guessOf := List.mem_of_getElem? (i := 3) rfl
theorem inX7_guessOf_X7 : ∀ w ∈ wsX70, w ∈ wsX7_guessOf := fun w h => List.mem_cons_of_mem _ (List.mem_append_left _ (List.mem_append_right _ h))
theorem inX7_guessOf_X6 : ∀ w ∈ wsX60, w ∈ wsX7_guessOf := fun w h => List.mem_cons_of_mem _ (List.mem_append_right _ h)
abbrev rmX7_guessOf : Room := { frames := 2, cells := 0, slots := 0, locals := 44 }
theorem hdX7_guessOf : yX7_guessOf.cls = RX7 ∧ yX7_guessOf.cls ≠ "java/lang/invoke/MethodHandle" ∧ yX7_guessOf.cls ≠ "java/lang/invoke/VarHandle" ∧ (parseMethodDescriptor yX7_guessOf.desc).map (fun d => d.parameters.length) = some 2 := by decide +kernel
def fX7_guessOf (ri : (Nat → Int32)) (hd : (Nat → Int64)) (v1 : Int32) (v2 : Int32) : Option (Int32) :=
  (rdI 9 ri v1).bind fun x8 =>
  if x8 = (-1 : Int32) then (
  some (-1 : Int32)) else (
  if v2 = (1 : Int32) then (
  (rdL 9 hd v1).bind fun x28 =>
  (fX5_guessByBits x28).bind fun x29 =>
  some x29) else (
  (rdL 9 hd v1).bind fun x43 =>
  (fX5_guessByLeast x43).bind fun x44 =>
  some x44))
set_option maxRecDepth 100000 in
set_option maxHeartbeats 4000000 in
theorem kX7_guessOf (l : Launch) (D : va_G) (cI cJ cZ cN cM : ClassId) (xa : Nat → Nat) (na : Nat → Nat) (pa : Nat → Nat) (ta : Nat → Nat) (ba : Nat → Nat) (da : Nat → Nat) (ia : Nat → Nat) (rc : (Nat → Int64)) (ri : (Nat → Int32)) (rs : (Nat → Int32)) (gr : Int32) (fm : (Nat → Int32)) (tt : (Nat → Int32)) (co : (Nat → Int32)) (le : Int32) (wa : (Nat → Int32)) (ar : (Nat → Int32)) (hd : (Nat → Int64)) (v1 : Int32) (v2 : Int32) (r : Int32) (hf : fX7_guessOf ri hd v1 v2 = some r) : MetI l yX7_guessOf wsX7_guessOf rmX7_guessOf D (TYL cI cJ cZ cN cM) [.ref (xa 0), .int v1, .int v2] (List.flatten [xW cI cJ cZ cN cM xa na pa ta ba da ia rc, tW cI cJ cZ cN cM ta ri rs gr fm tt co le wa ar hd]) (List.flatten [xW cI cJ cZ cN cM xa na pa ta ba da ia rc, tW cI cJ cZ cN cM ta ri rs gr fm tt co le wa ar hd]) r := by
  refine MetI.mk (cc := cX7_guessOf) (maxL := 3) (own := RX7) (ty := .int) [(0, .ref (xa 0)), (1, .int v1), (2, .int v2)] (by decide +kernel) rfl rfl (Nat.le_of_ble_eq_true rfl) rfl ?_
  intro p e s m args below meth c A Q C hret
  unfold fX7_guessOf at hf
  refine q_aload_n C 0 dX7_guessOf_0 rfl ?_
  refine q_get C 0 2 dX7_guessOf_1 rfl rfl (Nat.le_of_ble_eq_true rfl) inX7_guessOf_X7 lkX7_guessOf_1 rfl rfl ?_
  refine q_get C 2 0 dX7_guessOf_4 rfl rfl (Nat.le_of_ble_eq_true rfl) inX7_guessOf_X6 lkX7_guessOf_2 rfl rfl ?_
  refine q_iload_n C 1 dX7_guessOf_7 rfl ?_
  refine q_iald C 3 0 dX7_guessOf_8 rfl rfl hf (fun x8 hf => ?_)
  refine q_iconst C (-1) dX7_guessOf_9 (by decide) ?_
  refine q_icmp_ne C 15 dX7_guessOf_10 (by decide) hf (fun hf => ?_) (fun hf => ?_)
  · refine q_iload_n C 2 dX7_guessOf_15 rfl ?_
    refine q_iconst C 1 dX7_guessOf_16 (by decide) ?_
    refine q_icmp_ne C 35 dX7_guessOf_17 (by decide) hf (fun hf => ?_) (fun hf => ?_)
    · refine q_aload_n C 0 dX7_guessOf_35 rfl ?_
      refine q_get C 0 2 dX7_guessOf_36 rfl rfl (Nat.le_of_ble_eq_true rfl) inX7_guessOf_X7 lkX7_guessOf_1 rfl rfl ?_
      refine q_get C 2 9 dX7_guessOf_39 rfl rfl (Nat.le_of_ble_eq_true rfl) inX7_guessOf_X6 lkX7_guessOf_3 rfl rfl ?_
      refine q_iload_n C 1 dX7_guessOf_42 rfl ?_
      refine q_lald C 10 1 dX7_guessOf_43 rfl rfl hf (fun x43 hf => ?_)
      obtain ⟨x44, hM, hf⟩ := bd_e hf
      refine q_callSI C (List.flatten [xW cI cJ cZ cN cM xa na pa ta ba da ia rc, tW cI cJ cZ cN cM ta ri rs gr fm tt co le wa ar hd]) (kX5_guessByLeast l D cI cJ cZ cN cM   x43 x44 hM) (va_cwS 1 C.1.2.2.2.2 gX7_guessOf_X5_guessByLeast rfl rfl rfl hdX5_guessByLeast ⟨Nat.le_of_ble_eq_true rfl, Nat.le_of_ble_eq_true rfl⟩) FrX.none rfl rfl (Nat.le_of_ble_eq_true rfl) dX7_guessOf_44 ⟨Nat.zero_le _, Nat.zero_le _⟩ ?_
      have hz1 := Option.some.inj hf
      clear hf
      subst hz1
      exact hret _ _ dX7_guessOf_47 rfl
    · refine q_aload_n C 0 dX7_guessOf_20 rfl ?_
      refine q_get C 0 2 dX7_guessOf_21 rfl rfl (Nat.le_of_ble_eq_true rfl) inX7_guessOf_X7 lkX7_guessOf_1 rfl rfl ?_
      refine q_get C 2 9 dX7_guessOf_24 rfl rfl (Nat.le_of_ble_eq_true rfl) inX7_guessOf_X6 lkX7_guessOf_3 rfl rfl ?_
      refine q_iload_n C 1 dX7_guessOf_27 rfl ?_
      refine q_lald C 10 1 dX7_guessOf_28 rfl rfl hf (fun x28 hf => ?_)
      obtain ⟨x29, hM, hf⟩ := bd_e hf
      refine q_callSI C (List.flatten [xW cI cJ cZ cN cM xa na pa ta ba da ia rc, tW cI cJ cZ cN cM ta ri rs gr fm tt co le wa ar hd]) (kX5_guessByBits l D cI cJ cZ cN cM   x28 x29 hM) (va_cwS 1 C.1.2.2.2.2 gX7_guessOf_X5_guessByBits rfl rfl rfl hdX5_guessByBits ⟨Nat.le_of_ble_eq_true rfl, Nat.le_of_ble_eq_true rfl⟩) FrX.none rfl rfl (Nat.le_of_ble_eq_true rfl) dX7_guessOf_29 ⟨Nat.zero_le _, Nat.zero_le _⟩ ?_
      refine q_goto C 47 dX7_guessOf_32 (by decide) ?_
      have hz1 := Option.some.inj hf
      clear hf
      subst hz1
      exact hret _ _ dX7_guessOf_47 rfl
  · refine q_iconst C (-1) dX7_guessOf_13 (by decide) ?_
    have hz1 := Option.some.inj hf
    clear hf
    subst hz1
    exact hret _ _ dX7_guessOf_14 rfl

theorem lkX7_firstWrong_1 : Cond.fieldLink RX7 26 "TwiceHeard" "telling" "LTwiceHeard$Telling;" ∈ wsX7_firstWrong := List.mem_of_getElem? (i := 1) rfl
theorem lkX7_firstWrong_2 : Cond.fieldLink RX7 10 "TwiceHeard" "net" "LTwiceHeard$Net;" ∈ wsX7_firstWrong := List.mem_of_getElem? (i := 2) rfl
theorem lkX7_firstWrong_3 : Cond.fieldLink RX7 33 "TwiceHeard" "book" "LTwiceHeard$Book;" ∈ wsX7_firstWrong := List.mem_of_getElem? (i := 3) rfl
theorem lkX7_firstWrong_4 : Cond.fieldLink RX7 97 "TwiceHeard$Book" "size" "I" ∈ wsX7_firstWrong := List.mem_of_getElem? (i := 4) rfl
theorem lkX7_firstWrong_5 : Cond.fieldLink RX7 256 "TwiceHeard$Book" "nodes" "[I" ∈ wsX7_firstWrong := List.mem_of_getElem? (i := 5) rfl
theorem lkX7_firstWrong_6 : Cond.fieldLink RX7 111 "TwiceHeard$Telling" "ring" "[I" ∈ wsX7_firstWrong := List.mem_of_getElem? (i := 6) rfl
theorem lkX7_firstWrong_7 : Cond.fieldLink RX7 259 "TwiceHeard$Book" "guesses" "[I" ∈ wsX7_firstWrong := List.mem_of_getElem? (i := 7) rfl
theorem inX7_firstWrong_X7 : ∀ w ∈ wsX70, w ∈ wsX7_firstWrong := fun w h => List.mem_cons_of_mem _ (List.mem_append_left _ (List.mem_append_left _ (List.mem_append_left _ (List.mem_append_right _ h))))
theorem inX7_firstWrong_X0 : ∀ w ∈ wsX00, w ∈ wsX7_firstWrong := fun w h => List.mem_cons_of_mem _ (List.mem_append_left _ (List.mem_append_left _ (List.mem_append_right _ h)))
theorem inX7_firstWrong_X6 : ∀ w ∈ wsX60, w ∈ wsX7_firstWrong := fun w h => List.mem_cons_of_mem _ (List.mem_append_left _ (List.mem_append_right _ h))
theorem inX7_firstWrong_X3 : ∀ w ∈ wsX30, w ∈ wsX7_firstWrong := fun w h => List.mem_cons_of_mem _ (List.mem_append_right _ h)
abbrev rmX7_firstWrong : Room := { frames := 4, cells := 0, slots := 0, locals := 99 }
theorem hdX7_firstWrong : yX7_firstWrong.cls = RX7 ∧ yX7_firstWrong.cls ≠ "java/lang/invoke/MethodHandle" ∧ yX7_firstWrong.cls ≠ "java/lang/invoke/VarHandle" ∧ (parseMethodDescriptor yX7_firstWrong.desc).map (fun d => d.parameters.length) = some 0 := by decide +kernel
def fX7_firstWrong_L14 (sz : Int32) (ri : (Nat → Int32)) (hd : (Nat → Int64)) (bn : (Nat → Int32)) (bg : (Nat → Int32)) (bz : Int32) : Nat → Int32 → Option (((Int32) ⊕ (Unit)))
  | 0, _ => none
  | n + 1, v1 =>
  if bz ≤ v1 then (
  some (.inr ())) else (
  (rdI 20 bn v1).bind fun x33 =>
  (fX3_has sz x33).bind fun x40 =>
  if x40 = 0 then (
  some (.inl v1)) else (
  (rdI 9 ri x33).bind fun x54 =>
  if x54 = (-1 : Int32) then (
  some (.inl v1)) else (
  (fX7_guessOf ri hd x33 (1 : Int32)).bind fun x62 =>
  (rdI 20 bg v1).bind fun x73 =>
  if x62 = x73 then (
  fX7_firstWrong_L14 sz ri hd bn bg bz n (v1 + 1)) else (
  some (.inl v1)))))
def fX7_firstWrong (sz : Int32) (sa : Int32) (he : (Nat → Int32)) (ri : (Nat → Int32)) (fm : (Nat → Int32)) (tt : (Nat → Int32)) (co : (Nat → Int32)) (le : Int32) (hd : (Nat → Int64)) (bn : (Nat → Int32)) (bg : (Nat → Int32)) (bz : Int32)  : Option (Int32 × (Nat → Int64)) :=
  (fX6_gather ri fm tt co le hd sz sa he (1 : Int32)).bind fun hd_9 =>
  bdS (fX7_firstWrong_L14 sz ri hd_9 bn bg bz 300 (0 : Int32)) (fun v1_14 =>
  some (v1_14, hd_9)) (fun _ =>
  some ((-1 : Int32), hd_9))
set_option maxRecDepth 100000 in
set_option maxHeartbeats 4000000 in
theorem wX7_firstWrong_L14 {p : Program} {l : Launch} {e : Env} {s : State} {m : MethodId} {args : Array Value} {below : List Frame} {meth : Method} {c : Code} {Q : State → Prop} {D : va_G} {A : Nat → Prop} {cI cJ cZ cN cM : ClassId} (C : Cx p s m args c cX7_firstWrong 3 RX7 wsX7_firstWrong D (TYL cI cJ cZ cN cM) A) (xa : Nat → Nat) (na : Nat → Nat) (pa : Nat → Nat) (ta : Nat → Nat) (ba : Nat → Nat) (da : Nat → Nat) (ia : Nat → Nat) (rc : (Nat → Int64)) (sz : Int32) (sa : Int32) (mo : Int32) (li : (Nat → Int32)) (lo : (Nat → Int32)) (he : (Nat → Int32)) (ri : (Nat → Int32)) (rs : (Nat → Int32)) (gr : Int32) (fm : (Nat → Int32)) (tt : (Nat → Int32)) (co : (Nat → Int32)) (le : Int32) (wa : (Nat → Int32)) (ar : (Nat → Int32)) (hd : (Nat → Int64)) (bn : (Nat → Int32)) (bg : (Nat → Int32)) (bz : Int32)  (o : ((Int32) ⊕ (Unit)))  (kk1 : ∀ (o1 : Int32), o = .inl o1 → WW p l e rmX7_firstWrong s m args below meth c Q D A 3 0 0 (List.flatten [xW cI cJ cZ cN cM xa na pa ta ba da ia rc, nW cI cJ cZ cN cM na sz sa mo li lo he, tW cI cJ cZ cN cM ta ri rs gr fm tt co le wa ar hd, bW cI cJ cZ cN cM ba bn bg bz]) [(1, .int o1)] 77 []) (kk2 : o = .inr () → WW p l e rmX7_firstWrong s m args below meth c Q D A 3 0 0 (List.flatten [xW cI cJ cZ cN cM xa na pa ta ba da ia rc, nW cI cJ cZ cN cM na sz sa mo li lo he, tW cI cJ cZ cN cM ta ri rs gr fm tt co le wa ar hd, bW cI cJ cZ cN cM ba bn bg bz]) [] 85 []) : ∀ (n : Nat) (v1 : Int32), fX7_firstWrong_L14 sz ri hd bn bg bz n v1 = some o → WW p l e rmX7_firstWrong s m args below meth c Q D A 3 0 0 (List.flatten [xW cI cJ cZ cN cM xa na pa ta ba da ia rc, nW cI cJ cZ cN cM na sz sa mo li lo he, tW cI cJ cZ cN cM ta ri rs gr fm tt co le wa ar hd, bW cI cJ cZ cN cM ba bn bg bz]) [(0, .ref (xa 0)), (1, .int v1)] 14 [] := by
  intro n
  induction n with
  | zero =>
    intro v1 hf
    rw [fX7_firstWrong_L14] at hf
    cases hf
  | succ n ih =>
    intro v1 hf
    rw [fX7_firstWrong_L14] at hf
    refine q_iload_n C 1 dX7_firstWrong_14 rfl ?_
    refine q_aload_n C 0 dX7_firstWrong_15 rfl ?_
    refine q_get C 0 3 dX7_firstWrong_16 rfl rfl (Nat.le_of_ble_eq_true rfl) inX7_firstWrong_X7 lkX7_firstWrong_3 rfl rfl ?_
    refine q_get C 15 2 dX7_firstWrong_19 rfl rfl (Nat.le_of_ble_eq_true rfl) inX7_firstWrong_X0 lkX7_firstWrong_4 rfl rfl ?_
    refine q_icmp_ge C 85 dX7_firstWrong_22 (by decide) hf (fun hf => ?_) (fun hf => ?_)
    · refine q_lv [] [] rfl ?_
      cases hf
      exact kk2  rfl
    · refine q_aload_n C 0 dX7_firstWrong_25 rfl ?_
      refine q_get C 0 3 dX7_firstWrong_26 rfl rfl (Nat.le_of_ble_eq_true rfl) inX7_firstWrong_X7 lkX7_firstWrong_3 rfl rfl ?_
      refine q_get C 15 0 dX7_firstWrong_29 rfl rfl (Nat.le_of_ble_eq_true rfl) inX7_firstWrong_X0 lkX7_firstWrong_5 rfl rfl ?_
      refine q_iload_n C 1 dX7_firstWrong_32 rfl ?_
      refine q_iald C 16 0 dX7_firstWrong_33 rfl rfl hf (fun x33 hf => ?_)
      refine q_istore_n C [(2, .int x33), (0, .ref (xa 0)), (1, .int v1)] dX7_firstWrong_34 (by decide) rfl ?_
      refine q_aload_n C 1 dX7_firstWrong_35 rfl ?_
      refine q_get C 0 0 dX7_firstWrong_36 rfl rfl (Nat.le_of_ble_eq_true rfl) inX7_firstWrong_X7 lkX7_firstWrong_2 rfl rfl ?_
      refine q_iload_n C 0 dX7_firstWrong_39 rfl ?_
      obtain ⟨x40, hM, hf⟩ := bd_e hf
      refine q_callVI C (List.flatten [xW cI cJ cZ cN cM xa na pa ta ba da ia rc, nW cI cJ cZ cN cM na sz sa mo li lo he, tW cI cJ cZ cN cM ta ri rs gr fm tt co le wa ar hd, bW cI cJ cZ cN cM ba bn bg bz]) (kX3_has l D cI cJ cZ cN cM na sz sa mo li lo he x33 x40 hM) (cwV 1 C.1.2.2.2.2 gX7_firstWrong_X3_has rfl rfl rfl hdX3_has ⟨Nat.le_of_ble_eq_true rfl, Nat.le_of_ble_eq_true rfl⟩) 2 3 rfl rfl (FrX.blk [xW cI cJ cZ cN cM xa na pa ta ba da ia rc, nW cI cJ cZ cN cM na sz sa mo li lo he, tW cI cJ cZ cN cM ta ri rs gr fm tt co le wa ar hd, bW cI cJ cZ cN cM ba bn bg bz] [xW cI cJ cZ cN cM xa na pa ta ba da ia rc, nW cI cJ cZ cN cM na sz sa mo li lo he, tW cI cJ cZ cN cM ta ri rs gr fm tt co le wa ar hd, bW cI cJ cZ cN cM ba bn bg bz] [1] [0, 2, 3] 4 rfl rfl (by decide) rfl (List.append_nil _) (List.append_nil _)) rfl rfl (Nat.le_of_ble_eq_true rfl) dX7_firstWrong_40 ⟨Nat.zero_le _, Nat.zero_le _⟩ ?_
      refine q_if_eq C 77 dX7_firstWrong_43 (by decide) hf (fun hf => ?_) (fun hf => ?_)
      · refine q_lv [(1, .int v1)] [2] rfl ?_
        have hz1 := Option.some.inj hf
        clear hf
        subst hz1
        exact kk1 _ rfl
      · refine q_aload_n C 1 dX7_firstWrong_46 rfl ?_
        refine q_get C 0 2 dX7_firstWrong_47 rfl rfl (Nat.le_of_ble_eq_true rfl) inX7_firstWrong_X7 lkX7_firstWrong_1 rfl rfl ?_
        refine q_get C 6 0 dX7_firstWrong_50 rfl rfl (Nat.le_of_ble_eq_true rfl) inX7_firstWrong_X6 lkX7_firstWrong_6 rfl rfl ?_
        refine q_iload_n C 0 dX7_firstWrong_53 rfl ?_
        refine q_iald C 7 0 dX7_firstWrong_54 rfl rfl hf (fun x54 hf => ?_)
        refine q_iconst C (-1) dX7_firstWrong_55 (by decide) ?_
        refine q_icmp_eq C 77 dX7_firstWrong_56 (by decide) hf (fun hf => ?_) (fun hf => ?_)
        · refine q_lv [(1, .int v1)] [2] rfl ?_
          have hz1 := Option.some.inj hf
          clear hf
          subst hz1
          exact kk1 _ rfl
        · refine q_aload_n C 1 dX7_firstWrong_59 rfl ?_
          refine q_iload_n C 0 dX7_firstWrong_60 rfl ?_
          refine q_iconst C 1 dX7_firstWrong_61 (by decide) ?_
          obtain ⟨x62, hM, hf⟩ := bd_e hf
          refine q_callVI C (List.flatten [xW cI cJ cZ cN cM xa na pa ta ba da ia rc, nW cI cJ cZ cN cM na sz sa mo li lo he, tW cI cJ cZ cN cM ta ri rs gr fm tt co le wa ar hd, bW cI cJ cZ cN cM ba bn bg bz]) (kX7_guessOf l D cI cJ cZ cN cM xa na pa ta ba da ia rc ri rs gr fm tt co le wa ar hd x33 (1 : Int32) x62 hM) (cwV 2 C.1.2.2.2.2 gX7_firstWrong_X7_guessOf rfl rfl rfl hdX7_guessOf ⟨Nat.le_of_ble_eq_true rfl, Nat.le_of_ble_eq_true rfl⟩) 0 6 rfl rfl (FrX.blk [xW cI cJ cZ cN cM xa na pa ta ba da ia rc, nW cI cJ cZ cN cM na sz sa mo li lo he, tW cI cJ cZ cN cM ta ri rs gr fm tt co le wa ar hd, bW cI cJ cZ cN cM ba bn bg bz] [xW cI cJ cZ cN cM xa na pa ta ba da ia rc, nW cI cJ cZ cN cM na sz sa mo li lo he, tW cI cJ cZ cN cM ta ri rs gr fm tt co le wa ar hd, bW cI cJ cZ cN cM ba bn bg bz] [0, 2] [1, 3] 4 rfl rfl (by decide) rfl rfl rfl) rfl rfl (Nat.le_of_ble_eq_true rfl) dX7_firstWrong_62 ⟨Nat.zero_le _, Nat.zero_le _⟩ ?_
          refine q_aload_n C 1 dX7_firstWrong_65 rfl ?_
          refine q_get C 0 3 dX7_firstWrong_66 rfl rfl (Nat.le_of_ble_eq_true rfl) inX7_firstWrong_X7 lkX7_firstWrong_3 rfl rfl ?_
          refine q_get C 15 1 dX7_firstWrong_69 rfl rfl (Nat.le_of_ble_eq_true rfl) inX7_firstWrong_X0 lkX7_firstWrong_7 rfl rfl ?_
          refine q_iload_n C 2 dX7_firstWrong_72 rfl ?_
          refine q_iald C 17 0 dX7_firstWrong_73 rfl rfl hf (fun x73 hf => ?_)
          refine q_icmp_eq C 79 dX7_firstWrong_74 (by decide) hf (fun hf => ?_) (fun hf => ?_)
          · refine q_iinc C (v1 + 1) 2 [(1, .int (v1 + 1)), (2, .int x33), (0, .ref (xa 0))] dX7_firstWrong_79 rfl rfl (by decide) rfl ?_
            refine q_goto C 14 dX7_firstWrong_82 (by decide) ?_
            refine q_lv [(0, .ref (xa 0)), (1, .int (v1 + 1))] [2, 0] rfl ?_
            exact ih _ hf
          · refine q_lv [(1, .int v1)] [2] rfl ?_
            have hz1 := Option.some.inj hf
            clear hf
            subst hz1
            exact kk1 _ rfl
set_option maxRecDepth 100000 in
set_option maxHeartbeats 4000000 in
theorem kX7_firstWrong (l : Launch) (D : va_G) (cI cJ cZ cN cM : ClassId) (xa : Nat → Nat) (na : Nat → Nat) (pa : Nat → Nat) (ta : Nat → Nat) (ba : Nat → Nat) (da : Nat → Nat) (ia : Nat → Nat) (rc : (Nat → Int64)) (sz : Int32) (sa : Int32) (mo : Int32) (li : (Nat → Int32)) (lo : (Nat → Int32)) (he : (Nat → Int32)) (ri : (Nat → Int32)) (rs : (Nat → Int32)) (gr : Int32) (fm : (Nat → Int32)) (tt : (Nat → Int32)) (co : (Nat → Int32)) (le : Int32) (wa : (Nat → Int32)) (ar : (Nat → Int32)) (hd : (Nat → Int64)) (bn : (Nat → Int32)) (bg : (Nat → Int32)) (bz : Int32)  (r : Int32) (hd_o : (Nat → Int64)) (hf : fX7_firstWrong sz sa he ri fm tt co le hd bn bg bz = some (r, hd_o)) : MetI l yX7_firstWrong wsX7_firstWrong rmX7_firstWrong D (TYL cI cJ cZ cN cM) [.ref (xa 0)] (List.flatten [xW cI cJ cZ cN cM xa na pa ta ba da ia rc, nW cI cJ cZ cN cM na sz sa mo li lo he, tW cI cJ cZ cN cM ta ri rs gr fm tt co le wa ar hd, bW cI cJ cZ cN cM ba bn bg bz]) (List.flatten [xW cI cJ cZ cN cM xa na pa ta ba da ia rc, nW cI cJ cZ cN cM na sz sa mo li lo he, tW cI cJ cZ cN cM ta ri rs gr fm tt co le wa ar hd_o, bW cI cJ cZ cN cM ba bn bg bz]) r := by
  refine MetI.mk (cc := cX7_firstWrong) (maxL := 3) (own := RX7) (ty := .int) [(0, .ref (xa 0))] (by decide +kernel) rfl rfl (Nat.le_of_ble_eq_true rfl) rfl ?_
  intro p e s m args below meth c A Q C hret
  unfold fX7_firstWrong at hf
  refine q_aload_n C 0 dX7_firstWrong_0 rfl ?_
  refine q_get C 0 2 dX7_firstWrong_1 rfl rfl (Nat.le_of_ble_eq_true rfl) inX7_firstWrong_X7 lkX7_firstWrong_1 rfl rfl ?_
  refine q_aload_n C 0 dX7_firstWrong_4 rfl ?_
  refine q_get C 0 0 dX7_firstWrong_5 rfl rfl (Nat.le_of_ble_eq_true rfl) inX7_firstWrong_X7 lkX7_firstWrong_2 rfl rfl ?_
  refine q_iconst C 1 dX7_firstWrong_8 (by decide) ?_
  obtain ⟨hd_9, hM, hf⟩ := bd_e hf
  refine q_callVV C (List.flatten [xW cI cJ cZ cN cM xa na pa ta ba da ia rc, nW cI cJ cZ cN cM na sz sa mo li lo he, tW cI cJ cZ cN cM ta ri rs gr fm tt co le wa ar hd_9, bW cI cJ cZ cN cM ba bn bg bz]) (kX6_gather l D cI cJ cZ cN cM ta na ri rs gr fm tt co le wa ar hd sz sa mo li lo he (1 : Int32) hd_9 hM) (cwV 2 C.1.2.2.2.2 gX7_firstWrong_X6_gather rfl rfl rfl hdX6_gather ⟨Nat.le_of_ble_eq_true rfl, Nat.le_of_ble_eq_true rfl⟩) 6 5 rfl rfl (FrX.blk [xW cI cJ cZ cN cM xa na pa ta ba da ia rc, nW cI cJ cZ cN cM na sz sa mo li lo he, tW cI cJ cZ cN cM ta ri rs gr fm tt co le wa ar hd, bW cI cJ cZ cN cM ba bn bg bz] [xW cI cJ cZ cN cM xa na pa ta ba da ia rc, nW cI cJ cZ cN cM na sz sa mo li lo he, tW cI cJ cZ cN cM ta ri rs gr fm tt co le wa ar hd_9, bW cI cJ cZ cN cM ba bn bg bz] [2, 1] [0, 3] 4 rfl rfl (by decide) rfl rfl rfl) rfl rfl (Nat.le_of_ble_eq_true rfl) dX7_firstWrong_9 ⟨Nat.zero_le _, Nat.zero_le _⟩ ?_
  refine q_iconst C 0 dX7_firstWrong_12 (by decide) ?_
  refine q_istore_n C [(1, .int (0 : Int32)), (0, .ref (xa 0))] dX7_firstWrong_13 (by decide) rfl ?_
  refine q_lv [(0, .ref (xa 0)), (1, .int (0 : Int32))] [1, 0] rfl ?_
  rcases bdS_e hf with ⟨v1_14, hL, hf⟩ | ⟨⟨⟩, hL, hf⟩
  · try dsimp only at hf
    have K : WW p l e rmX7_firstWrong s m args below meth c Q D A 3 0 0 (List.flatten [xW cI cJ cZ cN cM xa na pa ta ba da ia rc, nW cI cJ cZ cN cM na sz sa mo li lo he, tW cI cJ cZ cN cM ta ri rs gr fm tt co le wa ar hd_9, bW cI cJ cZ cN cM ba bn bg bz]) [(1, .int v1_14)] 77 [] := by
      refine q_iload_n C 0 dX7_firstWrong_77 rfl ?_
      have hy0 := Option.some.inj hf
      clear hf
      obtain ⟨hz1, hy1⟩ := Prod.mk.inj hy0
      clear hy0
      subst hz1
      subst hy1
      exact hret _ _ dX7_firstWrong_78 rfl
    exact wX7_firstWrong_L14 C xa na pa ta ba da ia rc sz sa mo li lo he ri rs gr fm tt co le wa ar hd_9 bn bg bz  _ (fun _ hz => by cases hz; exact K) (fun  hz => by cases hz) 300 _ hL
  · try dsimp only at hf
    have K : WW p l e rmX7_firstWrong s m args below meth c Q D A 3 0 0 (List.flatten [xW cI cJ cZ cN cM xa na pa ta ba da ia rc, nW cI cJ cZ cN cM na sz sa mo li lo he, tW cI cJ cZ cN cM ta ri rs gr fm tt co le wa ar hd_9, bW cI cJ cZ cN cM ba bn bg bz]) [] 85 [] := by
      refine q_iconst C (-1) dX7_firstWrong_85 (by decide) ?_
      have hy0 := Option.some.inj hf
      clear hf
      obtain ⟨hz1, hy1⟩ := Prod.mk.inj hy0
      clear hy0
      subst hz1
      subst hy1
      exact hret _ _ dX7_firstWrong_86 rfl
    exact wX7_firstWrong_L14 C xa na pa ta ba da ia rc sz sa mo li lo he ri rs gr fm tt co le wa ar hd_9 bn bg bz  _ (fun _ hz => by cases hz) (fun hz => K) 300 _ hL

theorem lkX7_told_1 : Cond.fieldLink RX7 26 "TwiceHeard" "telling" "LTwiceHeard$Telling;" ∈ wsX7_told := List.mem_of_getElem? (i := 1) rfl
theorem lkX7_told_2 : Cond.fieldLink RX7 10 "TwiceHeard" "net" "LTwiceHeard$Net;" ∈ wsX7_told := List.mem_of_getElem? (i := 2) rfl
theorem lkX7_told_3 : Cond.fieldLink RX7 59 "TwiceHeard$Net" "size" "I" ∈ wsX7_told := List.mem_of_getElem? (i := 3) rfl
theorem lkX7_told_4 : Cond.fieldLink RX7 63 "TwiceHeard$Net" "linked" "[I" ∈ wsX7_told := List.mem_of_getElem? (i := 4) rfl
theorem lkX7_told_5 : Cond.fieldLink RX7 71 "TwiceHeard$Net" "lost" "[I" ∈ wsX7_told := List.mem_of_getElem? (i := 5) rfl
theorem lkX7_told_6 : Cond.fieldLink RX7 74 "TwiceHeard$Net" "salt" "I" ∈ wsX7_told := List.mem_of_getElem? (i := 6) rfl
theorem lkX7_told_7 : Cond.fieldLink RX7 77 "TwiceHeard$Net" "mode" "I" ∈ wsX7_told := List.mem_of_getElem? (i := 7) rfl
theorem lkX7_told_8 : Cond.fieldLink RX7 80 "TwiceHeard$Telling" "greatestRing" "I" ∈ wsX7_told := List.mem_of_getElem? (i := 8) rfl
theorem lkX7_told_9 : Cond.fieldLink RX7 91 "TwiceHeard$Telling" "letters" "I" ∈ wsX7_told := List.mem_of_getElem? (i := 9) rfl
theorem lkX7_told_10 : Cond.fieldLink RX7 33 "TwiceHeard" "book" "LTwiceHeard$Book;" ∈ wsX7_told := List.mem_of_getElem? (i := 10) rfl
theorem lkX7_told_11 : Cond.fieldLink RX7 97 "TwiceHeard$Book" "size" "I" ∈ wsX7_told := List.mem_of_getElem? (i := 11) rfl
theorem lkX7_told_12 : Cond.fieldLink RX7 19 "TwiceHeard" "past" "LTwiceHeard$Past;" ∈ wsX7_told := List.mem_of_getElem? (i := 12) rfl
theorem lkX7_told_13 : Cond.fieldLink RX7 101 "TwiceHeard$Past" "size" "I" ∈ wsX7_told := List.mem_of_getElem? (i := 13) rfl
theorem lkX7_told_14 : Cond.fieldLink RX7 40 "TwiceHeard" "draws" "LTwiceHeard$Draws;" ∈ wsX7_told := List.mem_of_getElem? (i := 14) rfl
theorem lkX7_told_15 : Cond.fieldLink RX7 102 "TwiceHeard$Draws" "seed" "I" ∈ wsX7_told := List.mem_of_getElem? (i := 15) rfl
theorem lkX7_told_16 : Cond.constant RX7 105 (-1000000002) ∈ wsX7_told := List.mem_of_getElem? (i := 16) rfl
theorem inX7_told_X7 : ∀ w ∈ wsX70, w ∈ wsX7_told := fun w h => List.mem_cons_of_mem _ (List.mem_append_left _ (List.mem_append_left _ (List.mem_append_left _ (List.mem_append_left _ (List.mem_append_left _ (List.mem_append_right _ h))))))
theorem inX7_told_X3 : ∀ w ∈ wsX30, w ∈ wsX7_told := fun w h => List.mem_cons_of_mem _ (List.mem_append_left _ (List.mem_append_left _ (List.mem_append_left _ (List.mem_append_left _ (List.mem_append_right _ h)))))
theorem inX7_told_X6 : ∀ w ∈ wsX60, w ∈ wsX7_told := fun w h => List.mem_cons_of_mem _ (List.mem_append_left _ (List.mem_append_left _ (List.mem_append_left _ (List.mem_append_right _ h))))
theorem inX7_told_X0 : ∀ w ∈ wsX00, w ∈ wsX7_told := fun w h => List.mem_cons_of_mem _ (List.mem_append_left _ (List.mem_append_left _ (List.mem_append_right _ h)))
theorem inX7_told_X4 : ∀ w ∈ wsX40, w ∈ wsX7_told := fun w h => List.mem_cons_of_mem _ (List.mem_append_left _ (List.mem_append_right _ h))
theorem inX7_told_X1 : ∀ w ∈ wsX10, w ∈ wsX7_told := fun w h => List.mem_cons_of_mem _ (List.mem_append_right _ h)
abbrev rmX7_told : Room := { frames := 5, cells := 0, slots := 0, locals := 121 }
theorem hdX7_told : yX7_told.cls = RX7 ∧ yX7_told.cls ≠ "java/lang/invoke/MethodHandle" ∧ yX7_told.cls ≠ "java/lang/invoke/VarHandle" ∧ (parseMethodDescriptor yX7_told.desc).map (fun d => d.parameters.length) = some 1 := by decide +kernel
def fX7_told (sz : Int32) (sa : Int32) (mo : Int32) (li : (Nat → Int32)) (lo : (Nat → Int32)) (he : (Nat → Int32)) (ri : (Nat → Int32)) (rs : (Nat → Int32)) (gr : Int32) (fm : (Nat → Int32)) (tt : (Nat → Int32)) (co : (Nat → Int32)) (le : Int32) (wa : (Nat → Int32)) (ar : (Nat → Int32)) (hd : (Nat → Int64)) (bn : (Nat → Int32)) (bg : (Nat → Int32)) (bz : Int32) (pz : Int32) (sd : Int32) (v1 : Int32) : Option (Int32 × (Nat → Int32) × (Nat → Int32) × Int32 × (Nat → Int32) × (Nat → Int32) × (Nat → Int32) × Int32 × (Nat → Int32) × (Nat → Int32) × (Nat → Int64)) :=
  bd9 (fX6_trace ri rs gr fm tt co le wa ar sz mo li lo) fun ri_8 rs_8 gr_8 fm_8 tt_8 co_8 le_8 wa_8 ar_8 =>
  if v1 = (0 : Int32) then (
  some (sz, ri_8, rs_8, gr_8, fm_8, tt_8, co_8, le_8, wa_8, ar_8, hd)) else (
  if v1 = (1 : Int32) then (
  (fX7_pairsIn li).bind fun x99 =>
  some (x99, ri_8, rs_8, gr_8, fm_8, tt_8, co_8, le_8, wa_8, ar_8, hd)) else (
  if v1 = (2 : Int32) then (
  (fX7_pairsIn lo).bind fun x110 =>
  some (x110, ri_8, rs_8, gr_8, fm_8, tt_8, co_8, le_8, wa_8, ar_8, hd)) else (
  if v1 = (3 : Int32) then (
  some (sa, ri_8, rs_8, gr_8, fm_8, tt_8, co_8, le_8, wa_8, ar_8, hd)) else (
  if v1 = (4 : Int32) then (
  some (mo, ri_8, rs_8, gr_8, fm_8, tt_8, co_8, le_8, wa_8, ar_8, hd)) else (
  if v1 = (5 : Int32) then (
  some (gr_8, ri_8, rs_8, gr_8, fm_8, tt_8, co_8, le_8, wa_8, ar_8, hd)) else (
  if v1 = (6 : Int32) then (
  (fX6_comers wa_8).bind fun x142 =>
  some (x142, ri_8, rs_8, gr_8, fm_8, tt_8, co_8, le_8, wa_8, ar_8, hd)) else (
  if v1 = (7 : Int32) then (
  (fX6_trueCount ri_8 sz he).bind fun x154 =>
  some (x154, ri_8, rs_8, gr_8, fm_8, tt_8, co_8, le_8, wa_8, ar_8, hd)) else (
  if v1 = (8 : Int32) then (
  some (le_8, ri_8, rs_8, gr_8, fm_8, tt_8, co_8, le_8, wa_8, ar_8, hd)) else (
  if v1 = (9 : Int32) then (
  (fX6_allArrivals ar_8).bind fun x177 =>
  some ((le_8 - x177), ri_8, rs_8, gr_8, fm_8, tt_8, co_8, le_8, wa_8, ar_8, hd)) else (
  if v1 = (10 : Int32) then (
  some (bz, ri_8, rs_8, gr_8, fm_8, tt_8, co_8, le_8, wa_8, ar_8, hd)) else (
  if v1 = (11 : Int32) then (
  bd2 (fX7_firstWrong sz sa he ri_8 fm_8 tt_8 co_8 le_8 hd bn bg bz) fun x191 hd_191 =>
  some (x191, ri_8, rs_8, gr_8, fm_8, tt_8, co_8, le_8, wa_8, ar_8, hd_191)) else (
  if v1 = (12 : Int32) then (
  some (pz, ri_8, rs_8, gr_8, fm_8, tt_8, co_8, le_8, wa_8, ar_8, hd)) else (
  if v1 = (13 : Int32) then (
  some (sd, ri_8, rs_8, gr_8, fm_8, tt_8, co_8, le_8, wa_8, ar_8, hd)) else (
  some ((-1000000002 : Int32), ri_8, rs_8, gr_8, fm_8, tt_8, co_8, le_8, wa_8, ar_8, hd)))))))))))))))
set_option maxRecDepth 100000 in
set_option maxHeartbeats 4000000 in
theorem kX7_told (l : Launch) (D : va_G) (cI cJ cZ cN cM : ClassId) (xa : Nat → Nat) (na : Nat → Nat) (pa : Nat → Nat) (ta : Nat → Nat) (ba : Nat → Nat) (da : Nat → Nat) (ia : Nat → Nat) (ga : Nat → Nat) (rc : (Nat → Int64)) (sz : Int32) (sa : Int32) (mo : Int32) (li : (Nat → Int32)) (lo : (Nat → Int32)) (he : (Nat → Int32)) (ri : (Nat → Int32)) (rs : (Nat → Int32)) (gr : Int32) (fm : (Nat → Int32)) (tt : (Nat → Int32)) (co : (Nat → Int32)) (le : Int32) (wa : (Nat → Int32)) (ar : (Nat → Int32)) (hd : (Nat → Int64)) (bn : (Nat → Int32)) (bg : (Nat → Int32)) (bz : Int32) (pz : Int32) (pn : Int32) (sd : Int32) (v1 : Int32) (r : Int32) (ri_o : (Nat → Int32)) (rs_o : (Nat → Int32)) (gr_o : Int32) (fm_o : (Nat → Int32)) (tt_o : (Nat → Int32)) (co_o : (Nat → Int32)) (le_o : Int32) (wa_o : (Nat → Int32)) (ar_o : (Nat → Int32)) (hd_o : (Nat → Int64)) (hf : fX7_told sz sa mo li lo he ri rs gr fm tt co le wa ar hd bn bg bz pz sd v1 = some (r, ri_o, rs_o, gr_o, fm_o, tt_o, co_o, le_o, wa_o, ar_o, hd_o)) : MetI l yX7_told wsX7_told rmX7_told D (TYL cI cJ cZ cN cM) [.ref (xa 0), .int v1] (List.flatten [xW cI cJ cZ cN cM xa na pa ta ba da ia rc, nW cI cJ cZ cN cM na sz sa mo li lo he, tW cI cJ cZ cN cM ta ri rs gr fm tt co le wa ar hd, bW cI cJ cZ cN cM ba bn bg bz, pW cI cJ cZ cN cM pa ga pz pn, dW cI cJ cZ cN cM da sd]) (List.flatten [xW cI cJ cZ cN cM xa na pa ta ba da ia rc, nW cI cJ cZ cN cM na sz sa mo li lo he, tW cI cJ cZ cN cM ta ri_o rs_o gr_o fm_o tt_o co_o le_o wa_o ar_o hd_o, bW cI cJ cZ cN cM ba bn bg bz, pW cI cJ cZ cN cM pa ga pz pn, dW cI cJ cZ cN cM da sd]) r := by
  refine MetI.mk (cc := cX7_told) (maxL := 2) (own := RX7) (ty := .int) [(0, .ref (xa 0)), (1, .int v1)] (by decide +kernel) rfl rfl (Nat.le_of_ble_eq_true rfl) rfl ?_
  intro p e s m args below meth c A Q C hret
  unfold fX7_told at hf
  refine q_aload_n C 0 dX7_told_0 rfl ?_
  refine q_get C 0 2 dX7_told_1 rfl rfl (Nat.le_of_ble_eq_true rfl) inX7_told_X7 lkX7_told_1 rfl rfl ?_
  refine q_aload_n C 0 dX7_told_4 rfl ?_
  refine q_get C 0 0 dX7_told_5 rfl rfl (Nat.le_of_ble_eq_true rfl) inX7_told_X7 lkX7_told_2 rfl rfl ?_
  obtain ⟨ri_8, rs_8, gr_8, fm_8, tt_8, co_8, le_8, wa_8, ar_8, hM, hf⟩ := bd9_e hf
  refine q_callVV C (List.flatten [xW cI cJ cZ cN cM xa na pa ta ba da ia rc, nW cI cJ cZ cN cM na sz sa mo li lo he, tW cI cJ cZ cN cM ta ri_8 rs_8 gr_8 fm_8 tt_8 co_8 le_8 wa_8 ar_8 hd, bW cI cJ cZ cN cM ba bn bg bz, pW cI cJ cZ cN cM pa ga pz pn, dW cI cJ cZ cN cM da sd]) (kX6_trace l D cI cJ cZ cN cM ta na ri rs gr fm tt co le wa ar hd sz sa mo li lo he  ri_8 rs_8 gr_8 fm_8 tt_8 co_8 le_8 wa_8 ar_8 hM) (cwV 1 C.1.2.2.2.2 gX7_told_X6_trace rfl rfl rfl hdX6_trace ⟨Nat.le_of_ble_eq_true rfl, Nat.le_of_ble_eq_true rfl⟩) 6 5 rfl rfl (FrX.blk [xW cI cJ cZ cN cM xa na pa ta ba da ia rc, nW cI cJ cZ cN cM na sz sa mo li lo he, tW cI cJ cZ cN cM ta ri rs gr fm tt co le wa ar hd, bW cI cJ cZ cN cM ba bn bg bz, pW cI cJ cZ cN cM pa ga pz pn, dW cI cJ cZ cN cM da sd] [xW cI cJ cZ cN cM xa na pa ta ba da ia rc, nW cI cJ cZ cN cM na sz sa mo li lo he, tW cI cJ cZ cN cM ta ri_8 rs_8 gr_8 fm_8 tt_8 co_8 le_8 wa_8 ar_8 hd, bW cI cJ cZ cN cM ba bn bg bz, pW cI cJ cZ cN cM pa ga pz pn, dW cI cJ cZ cN cM da sd] [2, 1] [0, 3, 4, 5] 6 rfl rfl (by decide) rfl rfl rfl) rfl rfl (Nat.le_of_ble_eq_true rfl) dX7_told_8 ⟨Nat.zero_le _, Nat.zero_le _⟩ ?_
  refine q_iload_n C 1 dX7_told_11 rfl ?_
  refine q_sw C 0 72 0 84 dX7_told_12 rfl (by decide) (by decide) rfl (by decide) hf (fun hf => ?_) (fun hn0 hf => ?_)
  · refine q_aload_n C 0 dX7_told_84 rfl ?_
    refine q_get C 0 0 dX7_told_85 rfl rfl (Nat.le_of_ble_eq_true rfl) inX7_told_X7 lkX7_told_2 rfl rfl ?_
    refine q_get C 2 0 dX7_told_88 rfl rfl (Nat.le_of_ble_eq_true rfl) inX7_told_X3 lkX7_told_3 rfl rfl ?_
    have hy0 := Option.some.inj hf
    clear hf
    obtain ⟨hz1, hy1⟩ := Prod.mk.inj hy0
    clear hy0
    obtain ⟨hz2, hy2⟩ := Prod.mk.inj hy1
    clear hy1
    obtain ⟨hz3, hy3⟩ := Prod.mk.inj hy2
    clear hy2
    obtain ⟨hz4, hy4⟩ := Prod.mk.inj hy3
    clear hy3
    obtain ⟨hz5, hy5⟩ := Prod.mk.inj hy4
    clear hy4
    obtain ⟨hz6, hy6⟩ := Prod.mk.inj hy5
    clear hy5
    obtain ⟨hz7, hy7⟩ := Prod.mk.inj hy6
    clear hy6
    obtain ⟨hz8, hy8⟩ := Prod.mk.inj hy7
    clear hy7
    obtain ⟨hz9, hy9⟩ := Prod.mk.inj hy8
    clear hy8
    obtain ⟨hz10, hy10⟩ := Prod.mk.inj hy9
    clear hy9
    subst hz1
    subst hz2
    subst hz3
    subst hz4
    subst hz5
    subst hz6
    subst hz7
    subst hz8
    subst hz9
    subst hz10
    subst hy10
    exact hret _ _ dX7_told_91 rfl
  refine q_sw C 1 80 1 92 dX7_told_12 rfl (by decide) (by decide) rfl (by decide) hf (fun hf => ?_) (fun hn1 hf => ?_)
  · refine q_aload_n C 0 dX7_told_92 rfl ?_
    refine q_get C 0 0 dX7_told_93 rfl rfl (Nat.le_of_ble_eq_true rfl) inX7_told_X7 lkX7_told_2 rfl rfl ?_
    refine q_get C 2 3 dX7_told_96 rfl rfl (Nat.le_of_ble_eq_true rfl) inX7_told_X3 lkX7_told_4 rfl rfl ?_
    obtain ⟨x99, hM, hf⟩ := bd_e hf
    refine q_callSI C (List.flatten [xW cI cJ cZ cN cM xa na pa ta ba da ia rc, nW cI cJ cZ cN cM na sz sa mo li lo he, tW cI cJ cZ cN cM ta ri_8 rs_8 gr_8 fm_8 tt_8 co_8 le_8 wa_8 ar_8 hd, bW cI cJ cZ cN cM ba bn bg bz, pW cI cJ cZ cN cM pa ga pz pn, dW cI cJ cZ cN cM da sd]) (kX7_pairsIn l D cI cJ cZ cN cM (fun _ => na 1) li  x99 hM) (va_cwS 1 C.1.2.2.2.2 gX7_told_X7_pairsIn rfl rfl rfl hdX7_pairsIn ⟨Nat.le_of_ble_eq_true rfl, Nat.le_of_ble_eq_true rfl⟩) (FrX.ofB [3] [0, 1, 2, 4, 5, 6, 7, 8, 9, 10, 11, 12, 13, 14, 15, 16, 17, 18, 19] [0, 1, 2, 19, 3, 4, 5, 6, 7, 8, 9, 10, 11, 12, 13, 14, 15, 16, 17, 18] rfl rfl rfl rfl rfl rfl rfl) rfl rfl (Nat.le_of_ble_eq_true rfl) dX7_told_99 ⟨Nat.zero_le _, Nat.zero_le _⟩ ?_
    have hy0 := Option.some.inj hf
    clear hf
    obtain ⟨hz1, hy1⟩ := Prod.mk.inj hy0
    clear hy0
    obtain ⟨hz2, hy2⟩ := Prod.mk.inj hy1
    clear hy1
    obtain ⟨hz3, hy3⟩ := Prod.mk.inj hy2
    clear hy2
    obtain ⟨hz4, hy4⟩ := Prod.mk.inj hy3
    clear hy3
    obtain ⟨hz5, hy5⟩ := Prod.mk.inj hy4
    clear hy4
    obtain ⟨hz6, hy6⟩ := Prod.mk.inj hy5
    clear hy5
    obtain ⟨hz7, hy7⟩ := Prod.mk.inj hy6
    clear hy6
    obtain ⟨hz8, hy8⟩ := Prod.mk.inj hy7
    clear hy7
    obtain ⟨hz9, hy9⟩ := Prod.mk.inj hy8
    clear hy8
    obtain ⟨hz10, hy10⟩ := Prod.mk.inj hy9
    clear hy9
    subst hz1
    subst hz2
    subst hz3
    subst hz4
    subst hz5
    subst hz6
    subst hz7
    subst hz8
    subst hz9
    subst hz10
    subst hy10
    exact hret _ _ dX7_told_102 rfl
  refine q_sw C 2 91 2 103 dX7_told_12 rfl (by decide) (by decide) rfl (by decide) hf (fun hf => ?_) (fun hn2 hf => ?_)
  · refine q_aload_n C 0 dX7_told_103 rfl ?_
    refine q_get C 0 0 dX7_told_104 rfl rfl (Nat.le_of_ble_eq_true rfl) inX7_told_X7 lkX7_told_2 rfl rfl ?_
    refine q_get C 2 4 dX7_told_107 rfl rfl (Nat.le_of_ble_eq_true rfl) inX7_told_X3 lkX7_told_5 rfl rfl ?_
    obtain ⟨x110, hM, hf⟩ := bd_e hf
    refine q_callSI C (List.flatten [xW cI cJ cZ cN cM xa na pa ta ba da ia rc, nW cI cJ cZ cN cM na sz sa mo li lo he, tW cI cJ cZ cN cM ta ri_8 rs_8 gr_8 fm_8 tt_8 co_8 le_8 wa_8 ar_8 hd, bW cI cJ cZ cN cM ba bn bg bz, pW cI cJ cZ cN cM pa ga pz pn, dW cI cJ cZ cN cM da sd]) (kX7_pairsIn l D cI cJ cZ cN cM (fun _ => na 2) lo  x110 hM) (va_cwS 1 C.1.2.2.2.2 gX7_told_X7_pairsIn rfl rfl rfl hdX7_pairsIn ⟨Nat.le_of_ble_eq_true rfl, Nat.le_of_ble_eq_true rfl⟩) (FrX.ofB [4] [0, 1, 2, 3, 5, 6, 7, 8, 9, 10, 11, 12, 13, 14, 15, 16, 17, 18, 19] [0, 1, 2, 3, 19, 4, 5, 6, 7, 8, 9, 10, 11, 12, 13, 14, 15, 16, 17, 18] rfl rfl rfl rfl rfl rfl rfl) rfl rfl (Nat.le_of_ble_eq_true rfl) dX7_told_110 ⟨Nat.zero_le _, Nat.zero_le _⟩ ?_
    have hy0 := Option.some.inj hf
    clear hf
    obtain ⟨hz1, hy1⟩ := Prod.mk.inj hy0
    clear hy0
    obtain ⟨hz2, hy2⟩ := Prod.mk.inj hy1
    clear hy1
    obtain ⟨hz3, hy3⟩ := Prod.mk.inj hy2
    clear hy2
    obtain ⟨hz4, hy4⟩ := Prod.mk.inj hy3
    clear hy3
    obtain ⟨hz5, hy5⟩ := Prod.mk.inj hy4
    clear hy4
    obtain ⟨hz6, hy6⟩ := Prod.mk.inj hy5
    clear hy5
    obtain ⟨hz7, hy7⟩ := Prod.mk.inj hy6
    clear hy6
    obtain ⟨hz8, hy8⟩ := Prod.mk.inj hy7
    clear hy7
    obtain ⟨hz9, hy9⟩ := Prod.mk.inj hy8
    clear hy8
    obtain ⟨hz10, hy10⟩ := Prod.mk.inj hy9
    clear hy9
    subst hz1
    subst hz2
    subst hz3
    subst hz4
    subst hz5
    subst hz6
    subst hz7
    subst hz8
    subst hz9
    subst hz10
    subst hy10
    exact hret _ _ dX7_told_113 rfl
  refine q_sw C 3 102 3 114 dX7_told_12 rfl (by decide) (by decide) rfl (by decide) hf (fun hf => ?_) (fun hn3 hf => ?_)
  · refine q_aload_n C 0 dX7_told_114 rfl ?_
    refine q_get C 0 0 dX7_told_115 rfl rfl (Nat.le_of_ble_eq_true rfl) inX7_told_X7 lkX7_told_2 rfl rfl ?_
    refine q_get C 2 1 dX7_told_118 rfl rfl (Nat.le_of_ble_eq_true rfl) inX7_told_X3 lkX7_told_6 rfl rfl ?_
    have hy0 := Option.some.inj hf
    clear hf
    obtain ⟨hz1, hy1⟩ := Prod.mk.inj hy0
    clear hy0
    obtain ⟨hz2, hy2⟩ := Prod.mk.inj hy1
    clear hy1
    obtain ⟨hz3, hy3⟩ := Prod.mk.inj hy2
    clear hy2
    obtain ⟨hz4, hy4⟩ := Prod.mk.inj hy3
    clear hy3
    obtain ⟨hz5, hy5⟩ := Prod.mk.inj hy4
    clear hy4
    obtain ⟨hz6, hy6⟩ := Prod.mk.inj hy5
    clear hy5
    obtain ⟨hz7, hy7⟩ := Prod.mk.inj hy6
    clear hy6
    obtain ⟨hz8, hy8⟩ := Prod.mk.inj hy7
    clear hy7
    obtain ⟨hz9, hy9⟩ := Prod.mk.inj hy8
    clear hy8
    obtain ⟨hz10, hy10⟩ := Prod.mk.inj hy9
    clear hy9
    subst hz1
    subst hz2
    subst hz3
    subst hz4
    subst hz5
    subst hz6
    subst hz7
    subst hz8
    subst hz9
    subst hz10
    subst hy10
    exact hret _ _ dX7_told_121 rfl
  refine q_sw C 4 110 4 122 dX7_told_12 rfl (by decide) (by decide) rfl (by decide) hf (fun hf => ?_) (fun hn4 hf => ?_)
  · refine q_aload_n C 0 dX7_told_122 rfl ?_
    refine q_get C 0 0 dX7_told_123 rfl rfl (Nat.le_of_ble_eq_true rfl) inX7_told_X7 lkX7_told_2 rfl rfl ?_
    refine q_get C 2 2 dX7_told_126 rfl rfl (Nat.le_of_ble_eq_true rfl) inX7_told_X3 lkX7_told_7 rfl rfl ?_
    have hy0 := Option.some.inj hf
    clear hf
    obtain ⟨hz1, hy1⟩ := Prod.mk.inj hy0
    clear hy0
    obtain ⟨hz2, hy2⟩ := Prod.mk.inj hy1
    clear hy1
    obtain ⟨hz3, hy3⟩ := Prod.mk.inj hy2
    clear hy2
    obtain ⟨hz4, hy4⟩ := Prod.mk.inj hy3
    clear hy3
    obtain ⟨hz5, hy5⟩ := Prod.mk.inj hy4
    clear hy4
    obtain ⟨hz6, hy6⟩ := Prod.mk.inj hy5
    clear hy5
    obtain ⟨hz7, hy7⟩ := Prod.mk.inj hy6
    clear hy6
    obtain ⟨hz8, hy8⟩ := Prod.mk.inj hy7
    clear hy7
    obtain ⟨hz9, hy9⟩ := Prod.mk.inj hy8
    clear hy8
    obtain ⟨hz10, hy10⟩ := Prod.mk.inj hy9
    clear hy9
    subst hz1
    subst hz2
    subst hz3
    subst hz4
    subst hz5
    subst hz6
    subst hz7
    subst hz8
    subst hz9
    subst hz10
    subst hy10
    exact hret _ _ dX7_told_129 rfl
  refine q_sw C 5 118 5 130 dX7_told_12 rfl (by decide) (by decide) rfl (by decide) hf (fun hf => ?_) (fun hn5 hf => ?_)
  · refine q_aload_n C 0 dX7_told_130 rfl ?_
    refine q_get C 0 2 dX7_told_131 rfl rfl (Nat.le_of_ble_eq_true rfl) inX7_told_X7 lkX7_told_1 rfl rfl ?_
    refine q_get C 6 2 dX7_told_134 rfl rfl (Nat.le_of_ble_eq_true rfl) inX7_told_X6 lkX7_told_8 rfl rfl ?_
    have hy0 := Option.some.inj hf
    clear hf
    obtain ⟨hz1, hy1⟩ := Prod.mk.inj hy0
    clear hy0
    obtain ⟨hz2, hy2⟩ := Prod.mk.inj hy1
    clear hy1
    obtain ⟨hz3, hy3⟩ := Prod.mk.inj hy2
    clear hy2
    obtain ⟨hz4, hy4⟩ := Prod.mk.inj hy3
    clear hy3
    obtain ⟨hz5, hy5⟩ := Prod.mk.inj hy4
    clear hy4
    obtain ⟨hz6, hy6⟩ := Prod.mk.inj hy5
    clear hy5
    obtain ⟨hz7, hy7⟩ := Prod.mk.inj hy6
    clear hy6
    obtain ⟨hz8, hy8⟩ := Prod.mk.inj hy7
    clear hy7
    obtain ⟨hz9, hy9⟩ := Prod.mk.inj hy8
    clear hy8
    obtain ⟨hz10, hy10⟩ := Prod.mk.inj hy9
    clear hy9
    subst hz1
    subst hz2
    subst hz3
    subst hz4
    subst hz5
    subst hz6
    subst hz7
    subst hz8
    subst hz9
    subst hz10
    subst hy10
    exact hret _ _ dX7_told_137 rfl
  refine q_sw C 6 126 6 138 dX7_told_12 rfl (by decide) (by decide) rfl (by decide) hf (fun hf => ?_) (fun hn6 hf => ?_)
  · refine q_aload_n C 0 dX7_told_138 rfl ?_
    refine q_get C 0 2 dX7_told_139 rfl rfl (Nat.le_of_ble_eq_true rfl) inX7_told_X7 lkX7_told_1 rfl rfl ?_
    obtain ⟨x142, hM, hf⟩ := bd_e hf
    refine q_callVI C (List.flatten [xW cI cJ cZ cN cM xa na pa ta ba da ia rc, nW cI cJ cZ cN cM na sz sa mo li lo he, tW cI cJ cZ cN cM ta ri_8 rs_8 gr_8 fm_8 tt_8 co_8 le_8 wa_8 ar_8 hd, bW cI cJ cZ cN cM ba bn bg bz, pW cI cJ cZ cN cM pa ga pz pn, dW cI cJ cZ cN cM da sd]) (kX6_comers l D cI cJ cZ cN cM ta ri_8 rs_8 gr_8 fm_8 tt_8 co_8 le_8 wa_8 ar_8 hd  x142 hM) (cwV 0 C.1.2.2.2.2 gX7_told_X6_comers rfl rfl rfl hdX6_comers ⟨Nat.le_of_ble_eq_true rfl, Nat.le_of_ble_eq_true rfl⟩) 6 5 rfl rfl (FrX.blk [xW cI cJ cZ cN cM xa na pa ta ba da ia rc, nW cI cJ cZ cN cM na sz sa mo li lo he, tW cI cJ cZ cN cM ta ri_8 rs_8 gr_8 fm_8 tt_8 co_8 le_8 wa_8 ar_8 hd, bW cI cJ cZ cN cM ba bn bg bz, pW cI cJ cZ cN cM pa ga pz pn, dW cI cJ cZ cN cM da sd] [xW cI cJ cZ cN cM xa na pa ta ba da ia rc, nW cI cJ cZ cN cM na sz sa mo li lo he, tW cI cJ cZ cN cM ta ri_8 rs_8 gr_8 fm_8 tt_8 co_8 le_8 wa_8 ar_8 hd, bW cI cJ cZ cN cM ba bn bg bz, pW cI cJ cZ cN cM pa ga pz pn, dW cI cJ cZ cN cM da sd] [2] [0, 1, 3, 4, 5] 6 rfl rfl (by decide) rfl (List.append_nil _) (List.append_nil _)) rfl rfl (Nat.le_of_ble_eq_true rfl) dX7_told_142 ⟨Nat.zero_le _, Nat.zero_le _⟩ ?_
    have hy0 := Option.some.inj hf
    clear hf
    obtain ⟨hz1, hy1⟩ := Prod.mk.inj hy0
    clear hy0
    obtain ⟨hz2, hy2⟩ := Prod.mk.inj hy1
    clear hy1
    obtain ⟨hz3, hy3⟩ := Prod.mk.inj hy2
    clear hy2
    obtain ⟨hz4, hy4⟩ := Prod.mk.inj hy3
    clear hy3
    obtain ⟨hz5, hy5⟩ := Prod.mk.inj hy4
    clear hy4
    obtain ⟨hz6, hy6⟩ := Prod.mk.inj hy5
    clear hy5
    obtain ⟨hz7, hy7⟩ := Prod.mk.inj hy6
    clear hy6
    obtain ⟨hz8, hy8⟩ := Prod.mk.inj hy7
    clear hy7
    obtain ⟨hz9, hy9⟩ := Prod.mk.inj hy8
    clear hy8
    obtain ⟨hz10, hy10⟩ := Prod.mk.inj hy9
    clear hy9
    subst hz1
    subst hz2
    subst hz3
    subst hz4
    subst hz5
    subst hz6
    subst hz7
    subst hz8
    subst hz9
    subst hz10
    subst hy10
    exact hret _ _ dX7_told_145 rfl
  refine q_sw C 7 134 7 146 dX7_told_12 rfl (by decide) (by decide) rfl (by decide) hf (fun hf => ?_) (fun hn7 hf => ?_)
  · refine q_aload_n C 0 dX7_told_146 rfl ?_
    refine q_get C 0 2 dX7_told_147 rfl rfl (Nat.le_of_ble_eq_true rfl) inX7_told_X7 lkX7_told_1 rfl rfl ?_
    refine q_aload_n C 0 dX7_told_150 rfl ?_
    refine q_get C 0 0 dX7_told_151 rfl rfl (Nat.le_of_ble_eq_true rfl) inX7_told_X7 lkX7_told_2 rfl rfl ?_
    obtain ⟨x154, hM, hf⟩ := bd_e hf
    refine q_callVI C (List.flatten [xW cI cJ cZ cN cM xa na pa ta ba da ia rc, nW cI cJ cZ cN cM na sz sa mo li lo he, tW cI cJ cZ cN cM ta ri_8 rs_8 gr_8 fm_8 tt_8 co_8 le_8 wa_8 ar_8 hd, bW cI cJ cZ cN cM ba bn bg bz, pW cI cJ cZ cN cM pa ga pz pn, dW cI cJ cZ cN cM da sd]) (kX6_trueCount l D cI cJ cZ cN cM ta na ri_8 rs_8 gr_8 fm_8 tt_8 co_8 le_8 wa_8 ar_8 hd sz sa mo li lo he  x154 hM) (cwV 1 C.1.2.2.2.2 gX7_told_X6_trueCount rfl rfl rfl hdX6_trueCount ⟨Nat.le_of_ble_eq_true rfl, Nat.le_of_ble_eq_true rfl⟩) 6 5 rfl rfl (FrX.blk [xW cI cJ cZ cN cM xa na pa ta ba da ia rc, nW cI cJ cZ cN cM na sz sa mo li lo he, tW cI cJ cZ cN cM ta ri_8 rs_8 gr_8 fm_8 tt_8 co_8 le_8 wa_8 ar_8 hd, bW cI cJ cZ cN cM ba bn bg bz, pW cI cJ cZ cN cM pa ga pz pn, dW cI cJ cZ cN cM da sd] [xW cI cJ cZ cN cM xa na pa ta ba da ia rc, nW cI cJ cZ cN cM na sz sa mo li lo he, tW cI cJ cZ cN cM ta ri_8 rs_8 gr_8 fm_8 tt_8 co_8 le_8 wa_8 ar_8 hd, bW cI cJ cZ cN cM ba bn bg bz, pW cI cJ cZ cN cM pa ga pz pn, dW cI cJ cZ cN cM da sd] [2, 1] [0, 3, 4, 5] 6 rfl rfl (by decide) rfl rfl rfl) rfl rfl (Nat.le_of_ble_eq_true rfl) dX7_told_154 ⟨Nat.zero_le _, Nat.zero_le _⟩ ?_
    have hy0 := Option.some.inj hf
    clear hf
    obtain ⟨hz1, hy1⟩ := Prod.mk.inj hy0
    clear hy0
    obtain ⟨hz2, hy2⟩ := Prod.mk.inj hy1
    clear hy1
    obtain ⟨hz3, hy3⟩ := Prod.mk.inj hy2
    clear hy2
    obtain ⟨hz4, hy4⟩ := Prod.mk.inj hy3
    clear hy3
    obtain ⟨hz5, hy5⟩ := Prod.mk.inj hy4
    clear hy4
    obtain ⟨hz6, hy6⟩ := Prod.mk.inj hy5
    clear hy5
    obtain ⟨hz7, hy7⟩ := Prod.mk.inj hy6
    clear hy6
    obtain ⟨hz8, hy8⟩ := Prod.mk.inj hy7
    clear hy7
    obtain ⟨hz9, hy9⟩ := Prod.mk.inj hy8
    clear hy8
    obtain ⟨hz10, hy10⟩ := Prod.mk.inj hy9
    clear hy9
    subst hz1
    subst hz2
    subst hz3
    subst hz4
    subst hz5
    subst hz6
    subst hz7
    subst hz8
    subst hz9
    subst hz10
    subst hy10
    exact hret _ _ dX7_told_157 rfl
  refine q_sw C 8 146 8 158 dX7_told_12 rfl (by decide) (by decide) rfl (by decide) hf (fun hf => ?_) (fun hn8 hf => ?_)
  · refine q_aload_n C 0 dX7_told_158 rfl ?_
    refine q_get C 0 2 dX7_told_159 rfl rfl (Nat.le_of_ble_eq_true rfl) inX7_told_X7 lkX7_told_1 rfl rfl ?_
    refine q_get C 6 6 dX7_told_162 rfl rfl (Nat.le_of_ble_eq_true rfl) inX7_told_X6 lkX7_told_9 rfl rfl ?_
    have hy0 := Option.some.inj hf
    clear hf
    obtain ⟨hz1, hy1⟩ := Prod.mk.inj hy0
    clear hy0
    obtain ⟨hz2, hy2⟩ := Prod.mk.inj hy1
    clear hy1
    obtain ⟨hz3, hy3⟩ := Prod.mk.inj hy2
    clear hy2
    obtain ⟨hz4, hy4⟩ := Prod.mk.inj hy3
    clear hy3
    obtain ⟨hz5, hy5⟩ := Prod.mk.inj hy4
    clear hy4
    obtain ⟨hz6, hy6⟩ := Prod.mk.inj hy5
    clear hy5
    obtain ⟨hz7, hy7⟩ := Prod.mk.inj hy6
    clear hy6
    obtain ⟨hz8, hy8⟩ := Prod.mk.inj hy7
    clear hy7
    obtain ⟨hz9, hy9⟩ := Prod.mk.inj hy8
    clear hy8
    obtain ⟨hz10, hy10⟩ := Prod.mk.inj hy9
    clear hy9
    subst hz1
    subst hz2
    subst hz3
    subst hz4
    subst hz5
    subst hz6
    subst hz7
    subst hz8
    subst hz9
    subst hz10
    subst hy10
    exact hret _ _ dX7_told_165 rfl
  refine q_sw C 9 154 9 166 dX7_told_12 rfl (by decide) (by decide) rfl (by decide) hf (fun hf => ?_) (fun hn9 hf => ?_)
  · refine q_aload_n C 0 dX7_told_166 rfl ?_
    refine q_get C 0 2 dX7_told_167 rfl rfl (Nat.le_of_ble_eq_true rfl) inX7_told_X7 lkX7_told_1 rfl rfl ?_
    refine q_get C 6 6 dX7_told_170 rfl rfl (Nat.le_of_ble_eq_true rfl) inX7_told_X6 lkX7_told_9 rfl rfl ?_
    refine q_aload_n C 0 dX7_told_173 rfl ?_
    refine q_get C 0 2 dX7_told_174 rfl rfl (Nat.le_of_ble_eq_true rfl) inX7_told_X7 lkX7_told_1 rfl rfl ?_
    obtain ⟨x177, hM, hf⟩ := bd_e hf
    refine q_callVI C (List.flatten [xW cI cJ cZ cN cM xa na pa ta ba da ia rc, nW cI cJ cZ cN cM na sz sa mo li lo he, tW cI cJ cZ cN cM ta ri_8 rs_8 gr_8 fm_8 tt_8 co_8 le_8 wa_8 ar_8 hd, bW cI cJ cZ cN cM ba bn bg bz, pW cI cJ cZ cN cM pa ga pz pn, dW cI cJ cZ cN cM da sd]) (kX6_allArrivals l D cI cJ cZ cN cM ta ri_8 rs_8 gr_8 fm_8 tt_8 co_8 le_8 wa_8 ar_8 hd  x177 hM) (cwV 0 C.1.2.2.2.2 gX7_told_X6_allArrivals rfl rfl rfl hdX6_allArrivals ⟨Nat.le_of_ble_eq_true rfl, Nat.le_of_ble_eq_true rfl⟩) 6 5 rfl rfl (FrX.blk [xW cI cJ cZ cN cM xa na pa ta ba da ia rc, nW cI cJ cZ cN cM na sz sa mo li lo he, tW cI cJ cZ cN cM ta ri_8 rs_8 gr_8 fm_8 tt_8 co_8 le_8 wa_8 ar_8 hd, bW cI cJ cZ cN cM ba bn bg bz, pW cI cJ cZ cN cM pa ga pz pn, dW cI cJ cZ cN cM da sd] [xW cI cJ cZ cN cM xa na pa ta ba da ia rc, nW cI cJ cZ cN cM na sz sa mo li lo he, tW cI cJ cZ cN cM ta ri_8 rs_8 gr_8 fm_8 tt_8 co_8 le_8 wa_8 ar_8 hd, bW cI cJ cZ cN cM ba bn bg bz, pW cI cJ cZ cN cM pa ga pz pn, dW cI cJ cZ cN cM da sd] [2] [0, 1, 3, 4, 5] 6 rfl rfl (by decide) rfl (List.append_nil _) (List.append_nil _)) rfl rfl (Nat.le_of_ble_eq_true rfl) dX7_told_177 ⟨Nat.zero_le _, Nat.zero_le _⟩ ?_
    refine q_isub C dX7_told_180 ?_
    have hy0 := Option.some.inj hf
    clear hf
    obtain ⟨hz1, hy1⟩ := Prod.mk.inj hy0
    clear hy0
    obtain ⟨hz2, hy2⟩ := Prod.mk.inj hy1
    clear hy1
    obtain ⟨hz3, hy3⟩ := Prod.mk.inj hy2
    clear hy2
    obtain ⟨hz4, hy4⟩ := Prod.mk.inj hy3
    clear hy3
    obtain ⟨hz5, hy5⟩ := Prod.mk.inj hy4
    clear hy4
    obtain ⟨hz6, hy6⟩ := Prod.mk.inj hy5
    clear hy5
    obtain ⟨hz7, hy7⟩ := Prod.mk.inj hy6
    clear hy6
    obtain ⟨hz8, hy8⟩ := Prod.mk.inj hy7
    clear hy7
    obtain ⟨hz9, hy9⟩ := Prod.mk.inj hy8
    clear hy8
    obtain ⟨hz10, hy10⟩ := Prod.mk.inj hy9
    clear hy9
    subst hz1
    subst hz2
    subst hz3
    subst hz4
    subst hz5
    subst hz6
    subst hz7
    subst hz8
    subst hz9
    subst hz10
    subst hy10
    exact hret _ _ dX7_told_181 rfl
  refine q_sw C 10 170 10 182 dX7_told_12 rfl (by decide) (by decide) rfl (by decide) hf (fun hf => ?_) (fun hn10 hf => ?_)
  · refine q_aload_n C 0 dX7_told_182 rfl ?_
    refine q_get C 0 3 dX7_told_183 rfl rfl (Nat.le_of_ble_eq_true rfl) inX7_told_X7 lkX7_told_10 rfl rfl ?_
    refine q_get C 15 2 dX7_told_186 rfl rfl (Nat.le_of_ble_eq_true rfl) inX7_told_X0 lkX7_told_11 rfl rfl ?_
    have hy0 := Option.some.inj hf
    clear hf
    obtain ⟨hz1, hy1⟩ := Prod.mk.inj hy0
    clear hy0
    obtain ⟨hz2, hy2⟩ := Prod.mk.inj hy1
    clear hy1
    obtain ⟨hz3, hy3⟩ := Prod.mk.inj hy2
    clear hy2
    obtain ⟨hz4, hy4⟩ := Prod.mk.inj hy3
    clear hy3
    obtain ⟨hz5, hy5⟩ := Prod.mk.inj hy4
    clear hy4
    obtain ⟨hz6, hy6⟩ := Prod.mk.inj hy5
    clear hy5
    obtain ⟨hz7, hy7⟩ := Prod.mk.inj hy6
    clear hy6
    obtain ⟨hz8, hy8⟩ := Prod.mk.inj hy7
    clear hy7
    obtain ⟨hz9, hy9⟩ := Prod.mk.inj hy8
    clear hy8
    obtain ⟨hz10, hy10⟩ := Prod.mk.inj hy9
    clear hy9
    subst hz1
    subst hz2
    subst hz3
    subst hz4
    subst hz5
    subst hz6
    subst hz7
    subst hz8
    subst hz9
    subst hz10
    subst hy10
    exact hret _ _ dX7_told_189 rfl
  refine q_sw C 11 178 11 190 dX7_told_12 rfl (by decide) (by decide) rfl (by decide) hf (fun hf => ?_) (fun hn11 hf => ?_)
  · refine q_aload_n C 0 dX7_told_190 rfl ?_
    obtain ⟨x191, hd_191, hM, hf⟩ := bd2_e hf
    refine q_callVI C (List.flatten [xW cI cJ cZ cN cM xa na pa ta ba da ia rc, nW cI cJ cZ cN cM na sz sa mo li lo he, tW cI cJ cZ cN cM ta ri_8 rs_8 gr_8 fm_8 tt_8 co_8 le_8 wa_8 ar_8 hd_191, bW cI cJ cZ cN cM ba bn bg bz, pW cI cJ cZ cN cM pa ga pz pn, dW cI cJ cZ cN cM da sd]) (kX7_firstWrong l D cI cJ cZ cN cM xa na pa ta ba da ia rc sz sa mo li lo he ri_8 rs_8 gr_8 fm_8 tt_8 co_8 le_8 wa_8 ar_8 hd bn bg bz  x191 hd_191 hM) (cwV 0 C.1.2.2.2.2 gX7_told_X7_firstWrong rfl rfl rfl hdX7_firstWrong ⟨Nat.le_of_ble_eq_true rfl, Nat.le_of_ble_eq_true rfl⟩) 0 6 rfl rfl (FrX.blk [xW cI cJ cZ cN cM xa na pa ta ba da ia rc, nW cI cJ cZ cN cM na sz sa mo li lo he, tW cI cJ cZ cN cM ta ri_8 rs_8 gr_8 fm_8 tt_8 co_8 le_8 wa_8 ar_8 hd, bW cI cJ cZ cN cM ba bn bg bz, pW cI cJ cZ cN cM pa ga pz pn, dW cI cJ cZ cN cM da sd] [xW cI cJ cZ cN cM xa na pa ta ba da ia rc, nW cI cJ cZ cN cM na sz sa mo li lo he, tW cI cJ cZ cN cM ta ri_8 rs_8 gr_8 fm_8 tt_8 co_8 le_8 wa_8 ar_8 hd_191, bW cI cJ cZ cN cM ba bn bg bz, pW cI cJ cZ cN cM pa ga pz pn, dW cI cJ cZ cN cM da sd] [0, 1, 2, 3] [4, 5] 6 rfl rfl (by decide) rfl rfl rfl) rfl rfl (Nat.le_of_ble_eq_true rfl) dX7_told_191 ⟨Nat.zero_le _, Nat.zero_le _⟩ ?_
    have hy0 := Option.some.inj hf
    clear hf
    obtain ⟨hz1, hy1⟩ := Prod.mk.inj hy0
    clear hy0
    obtain ⟨hz2, hy2⟩ := Prod.mk.inj hy1
    clear hy1
    obtain ⟨hz3, hy3⟩ := Prod.mk.inj hy2
    clear hy2
    obtain ⟨hz4, hy4⟩ := Prod.mk.inj hy3
    clear hy3
    obtain ⟨hz5, hy5⟩ := Prod.mk.inj hy4
    clear hy4
    obtain ⟨hz6, hy6⟩ := Prod.mk.inj hy5
    clear hy5
    obtain ⟨hz7, hy7⟩ := Prod.mk.inj hy6
    clear hy6
    obtain ⟨hz8, hy8⟩ := Prod.mk.inj hy7
    clear hy7
    obtain ⟨hz9, hy9⟩ := Prod.mk.inj hy8
    clear hy8
    obtain ⟨hz10, hy10⟩ := Prod.mk.inj hy9
    clear hy9
    subst hz1
    subst hz2
    subst hz3
    subst hz4
    subst hz5
    subst hz6
    subst hz7
    subst hz8
    subst hz9
    subst hz10
    subst hy10
    exact hret _ _ dX7_told_194 rfl
  refine q_sw C 12 183 12 195 dX7_told_12 rfl (by decide) (by decide) rfl (by decide) hf (fun hf => ?_) (fun hn12 hf => ?_)
  · refine q_aload_n C 0 dX7_told_195 rfl ?_
    refine q_get C 0 1 dX7_told_196 rfl rfl (Nat.le_of_ble_eq_true rfl) inX7_told_X7 lkX7_told_12 rfl rfl ?_
    refine q_get C 18 1 dX7_told_199 rfl rfl (Nat.le_of_ble_eq_true rfl) inX7_told_X4 lkX7_told_13 rfl rfl ?_
    have hy0 := Option.some.inj hf
    clear hf
    obtain ⟨hz1, hy1⟩ := Prod.mk.inj hy0
    clear hy0
    obtain ⟨hz2, hy2⟩ := Prod.mk.inj hy1
    clear hy1
    obtain ⟨hz3, hy3⟩ := Prod.mk.inj hy2
    clear hy2
    obtain ⟨hz4, hy4⟩ := Prod.mk.inj hy3
    clear hy3
    obtain ⟨hz5, hy5⟩ := Prod.mk.inj hy4
    clear hy4
    obtain ⟨hz6, hy6⟩ := Prod.mk.inj hy5
    clear hy5
    obtain ⟨hz7, hy7⟩ := Prod.mk.inj hy6
    clear hy6
    obtain ⟨hz8, hy8⟩ := Prod.mk.inj hy7
    clear hy7
    obtain ⟨hz9, hy9⟩ := Prod.mk.inj hy8
    clear hy8
    obtain ⟨hz10, hy10⟩ := Prod.mk.inj hy9
    clear hy9
    subst hz1
    subst hz2
    subst hz3
    subst hz4
    subst hz5
    subst hz6
    subst hz7
    subst hz8
    subst hz9
    subst hz10
    subst hy10
    exact hret _ _ dX7_told_202 rfl
  refine q_sw C 13 191 13 203 dX7_told_12 rfl (by decide) (by decide) rfl (by decide) hf (fun hf => ?_) (fun hn13 hf => ?_)
  · refine q_aload_n C 0 dX7_told_203 rfl ?_
    refine q_get C 0 4 dX7_told_204 rfl rfl (Nat.le_of_ble_eq_true rfl) inX7_told_X7 lkX7_told_14 rfl rfl ?_
    refine q_get C 19 0 dX7_told_207 rfl rfl (Nat.le_of_ble_eq_true rfl) inX7_told_X1 lkX7_told_15 rfl rfl ?_
    have hy0 := Option.some.inj hf
    clear hf
    obtain ⟨hz1, hy1⟩ := Prod.mk.inj hy0
    clear hy0
    obtain ⟨hz2, hy2⟩ := Prod.mk.inj hy1
    clear hy1
    obtain ⟨hz3, hy3⟩ := Prod.mk.inj hy2
    clear hy2
    obtain ⟨hz4, hy4⟩ := Prod.mk.inj hy3
    clear hy3
    obtain ⟨hz5, hy5⟩ := Prod.mk.inj hy4
    clear hy4
    obtain ⟨hz6, hy6⟩ := Prod.mk.inj hy5
    clear hy5
    obtain ⟨hz7, hy7⟩ := Prod.mk.inj hy6
    clear hy6
    obtain ⟨hz8, hy8⟩ := Prod.mk.inj hy7
    clear hy7
    obtain ⟨hz9, hy9⟩ := Prod.mk.inj hy8
    clear hy8
    obtain ⟨hz10, hy10⟩ := Prod.mk.inj hy9
    clear hy9
    subst hz1
    subst hz2
    subst hz3
    subst hz4
    subst hz5
    subst hz6
    subst hz7
    subst hz8
    subst hz9
    subst hz10
    subst hy10
    exact hret _ _ dX7_told_210 rfl
  have e0 := lv_neT (a := 0) hn0 rfl
  have e1 := lv_neT (a := 1) hn1 rfl
  have e2 := lv_neT (a := 2) hn2 rfl
  have e3 := lv_neT (a := 3) hn3 rfl
  have e4 := lv_neT (a := 4) hn4 rfl
  have e5 := lv_neT (a := 5) hn5 rfl
  have e6 := lv_neT (a := 6) hn6 rfl
  have e7 := lv_neT (a := 7) hn7 rfl
  have e8 := lv_neT (a := 8) hn8 rfl
  have e9 := lv_neT (a := 9) hn9 rfl
  have e10 := lv_neT (a := 10) hn10 rfl
  have e11 := lv_neT (a := 11) hn11 rfl
  have e12 := lv_neT (a := 12) hn12 rfl
  have e13 := lv_neT (a := 13) hn13 rfl
  refine q_swD C 211 dX7_told_12 (by omega) (by decide) ?_
  refine q_ldc C dX7_told_211 lkX7_told_16 ?_
  have hy0 := Option.some.inj hf
  clear hf
  obtain ⟨hz1, hy1⟩ := Prod.mk.inj hy0
  clear hy0
  obtain ⟨hz2, hy2⟩ := Prod.mk.inj hy1
  clear hy1
  obtain ⟨hz3, hy3⟩ := Prod.mk.inj hy2
  clear hy2
  obtain ⟨hz4, hy4⟩ := Prod.mk.inj hy3
  clear hy3
  obtain ⟨hz5, hy5⟩ := Prod.mk.inj hy4
  clear hy4
  obtain ⟨hz6, hy6⟩ := Prod.mk.inj hy5
  clear hy5
  obtain ⟨hz7, hy7⟩ := Prod.mk.inj hy6
  clear hy6
  obtain ⟨hz8, hy8⟩ := Prod.mk.inj hy7
  clear hy7
  obtain ⟨hz9, hy9⟩ := Prod.mk.inj hy8
  clear hy8
  obtain ⟨hz10, hy10⟩ := Prod.mk.inj hy9
  clear hy9
  subst hz1
  subst hz2
  subst hz3
  subst hz4
  subst hz5
  subst hz6
  subst hz7
  subst hz8
  subst hz9
  subst hz10
  subst hy10
  exact hret _ _ dX7_told_213 rfl

theorem lkX7_at_1 : Cond.fieldLink RX7 10 "TwiceHeard" "net" "LTwiceHeard$Net;" ∈ wsX7_at := List.mem_of_getElem? (i := 1) rfl
theorem lkX7_at_2 : Cond.constant RX7 110 (-1000000001) ∈ wsX7_at := List.mem_of_getElem? (i := 2) rfl
theorem lkX7_at_3 : Cond.fieldLink RX7 26 "TwiceHeard" "telling" "LTwiceHeard$Telling;" ∈ wsX7_at := List.mem_of_getElem? (i := 3) rfl
theorem lkX7_at_4 : Cond.fieldLink RX7 111 "TwiceHeard$Telling" "ring" "[I" ∈ wsX7_at := List.mem_of_getElem? (i := 4) rfl
theorem lkX7_at_5 : Cond.fieldLink RX7 63 "TwiceHeard$Net" "linked" "[I" ∈ wsX7_at := List.mem_of_getElem? (i := 5) rfl
theorem lkX7_at_6 : Cond.fieldLink RX7 118 "TwiceHeard$Net" "heard" "[I" ∈ wsX7_at := List.mem_of_getElem? (i := 6) rfl
theorem lkX7_at_7 : Cond.fieldLink RX7 121 "TwiceHeard$Telling" "ways" "[I" ∈ wsX7_at := List.mem_of_getElem? (i := 7) rfl
theorem lkX7_at_8 : Cond.fieldLink RX7 124 "TwiceHeard$Telling" "arrivals" "[I" ∈ wsX7_at := List.mem_of_getElem? (i := 8) rfl
theorem lkX7_at_9 : Cond.constant RX7 105 (-1000000002) ∈ wsX7_at := List.mem_of_getElem? (i := 9) rfl
theorem inX7_at_X7 : ∀ w ∈ wsX70, w ∈ wsX7_at := fun w h => List.mem_cons_of_mem _ (List.mem_append_left _ (List.mem_append_left _ (List.mem_append_right _ h)))
theorem inX7_at_X6 : ∀ w ∈ wsX60, w ∈ wsX7_at := fun w h => List.mem_cons_of_mem _ (List.mem_append_left _ (List.mem_append_right _ h))
theorem inX7_at_X3 : ∀ w ∈ wsX30, w ∈ wsX7_at := fun w h => List.mem_cons_of_mem _ (List.mem_append_right _ h)
abbrev rmX7_at : Room := { frames := 4, cells := 0, slots := 0, locals := 91 }
theorem hdX7_at : yX7_at.cls = RX7 ∧ yX7_at.cls ≠ "java/lang/invoke/MethodHandle" ∧ yX7_at.cls ≠ "java/lang/invoke/VarHandle" ∧ (parseMethodDescriptor yX7_at.desc).map (fun d => d.parameters.length) = some 2 := by decide +kernel
def fX7_at (sz : Int32) (mo : Int32) (li : (Nat → Int32)) (lo : (Nat → Int32)) (he : (Nat → Int32)) (ri : (Nat → Int32)) (rs : (Nat → Int32)) (gr : Int32) (fm : (Nat → Int32)) (tt : (Nat → Int32)) (co : (Nat → Int32)) (le : Int32) (wa : (Nat → Int32)) (ar : (Nat → Int32)) (v1 : Int32) (v2 : Int32) : Option (Int32 × (Nat → Int32) × (Nat → Int32) × Int32 × (Nat → Int32) × (Nat → Int32) × (Nat → Int32) × Int32 × (Nat → Int32) × (Nat → Int32)) :=
  (fX3_has sz v1).bind fun x5 =>
  if x5 = 0 then (
  some ((-1000000001 : Int32), ri, rs, gr, fm, tt, co, le, wa, ar)) else (
  bd9 (fX6_trace ri rs gr fm tt co le wa ar sz mo li lo) fun ri_22 rs_22 gr_22 fm_22 tt_22 co_22 le_22 wa_22 ar_22 =>
  if v2 = (0 : Int32) then (
  (rdI 9 ri_22 v1).bind fun x72 =>
  some (x72, ri_22, rs_22, gr_22, fm_22, tt_22, co_22, le_22, wa_22, ar_22)) else (
  if v2 = (1 : Int32) then (
  (rdI 9 li v1).bind fun x82 =>
  some (x82, ri_22, rs_22, gr_22, fm_22, tt_22, co_22, le_22, wa_22, ar_22)) else (
  if v2 = (2 : Int32) then (
  (fX6_uppers ri_22 rs_22 li v1).bind fun x93 =>
  some (x93, ri_22, rs_22, gr_22, fm_22, tt_22, co_22, le_22, wa_22, ar_22)) else (
  if v2 = (3 : Int32) then (
  (rdI 9 he v1).bind fun x105 =>
  some (x105, ri_22, rs_22, gr_22, fm_22, tt_22, co_22, le_22, wa_22, ar_22)) else (
  if v2 = (4 : Int32) then (
  (rdI 9 wa_22 v1).bind fun x115 =>
  some (x115, ri_22, rs_22, gr_22, fm_22, tt_22, co_22, le_22, wa_22, ar_22)) else (
  if v2 = (5 : Int32) then (
  (rdI 9 ar_22 v1).bind fun x125 =>
  some (x125, ri_22, rs_22, gr_22, fm_22, tt_22, co_22, le_22, wa_22, ar_22)) else (
  some ((-1000000002 : Int32), ri_22, rs_22, gr_22, fm_22, tt_22, co_22, le_22, wa_22, ar_22))))))))
set_option maxRecDepth 100000 in
set_option maxHeartbeats 4000000 in
theorem kX7_at (l : Launch) (D : va_G) (cI cJ cZ cN cM : ClassId) (xa : Nat → Nat) (na : Nat → Nat) (pa : Nat → Nat) (ta : Nat → Nat) (ba : Nat → Nat) (da : Nat → Nat) (ia : Nat → Nat) (rc : (Nat → Int64)) (sz : Int32) (sa : Int32) (mo : Int32) (li : (Nat → Int32)) (lo : (Nat → Int32)) (he : (Nat → Int32)) (ri : (Nat → Int32)) (rs : (Nat → Int32)) (gr : Int32) (fm : (Nat → Int32)) (tt : (Nat → Int32)) (co : (Nat → Int32)) (le : Int32) (wa : (Nat → Int32)) (ar : (Nat → Int32)) (hd : (Nat → Int64)) (v1 : Int32) (v2 : Int32) (r : Int32) (ri_o : (Nat → Int32)) (rs_o : (Nat → Int32)) (gr_o : Int32) (fm_o : (Nat → Int32)) (tt_o : (Nat → Int32)) (co_o : (Nat → Int32)) (le_o : Int32) (wa_o : (Nat → Int32)) (ar_o : (Nat → Int32)) (hf : fX7_at sz mo li lo he ri rs gr fm tt co le wa ar v1 v2 = some (r, ri_o, rs_o, gr_o, fm_o, tt_o, co_o, le_o, wa_o, ar_o)) : MetI l yX7_at wsX7_at rmX7_at D (TYL cI cJ cZ cN cM) [.ref (xa 0), .int v1, .int v2] (List.flatten [xW cI cJ cZ cN cM xa na pa ta ba da ia rc, nW cI cJ cZ cN cM na sz sa mo li lo he, tW cI cJ cZ cN cM ta ri rs gr fm tt co le wa ar hd]) (List.flatten [xW cI cJ cZ cN cM xa na pa ta ba da ia rc, nW cI cJ cZ cN cM na sz sa mo li lo he, tW cI cJ cZ cN cM ta ri_o rs_o gr_o fm_o tt_o co_o le_o wa_o ar_o hd]) r := by
  refine MetI.mk (cc := cX7_at) (maxL := 3) (own := RX7) (ty := .int) [(0, .ref (xa 0)), (1, .int v1), (2, .int v2)] (by decide +kernel) rfl rfl (Nat.le_of_ble_eq_true rfl) rfl ?_
  intro p e s m args below meth c A Q C hret
  unfold fX7_at at hf
  refine q_aload_n C 0 dX7_at_0 rfl ?_
  refine q_get C 0 0 dX7_at_1 rfl rfl (Nat.le_of_ble_eq_true rfl) inX7_at_X7 lkX7_at_1 rfl rfl ?_
  refine q_iload_n C 1 dX7_at_4 rfl ?_
  obtain ⟨x5, hM, hf⟩ := bd_e hf
  refine q_callVI C (List.flatten [xW cI cJ cZ cN cM xa na pa ta ba da ia rc, nW cI cJ cZ cN cM na sz sa mo li lo he, tW cI cJ cZ cN cM ta ri rs gr fm tt co le wa ar hd]) (kX3_has l D cI cJ cZ cN cM na sz sa mo li lo he v1 x5 hM) (cwV 1 C.1.2.2.2.2 gX7_at_X3_has rfl rfl rfl hdX3_has ⟨Nat.le_of_ble_eq_true rfl, Nat.le_of_ble_eq_true rfl⟩) 2 3 rfl rfl (FrX.blk [xW cI cJ cZ cN cM xa na pa ta ba da ia rc, nW cI cJ cZ cN cM na sz sa mo li lo he, tW cI cJ cZ cN cM ta ri rs gr fm tt co le wa ar hd] [xW cI cJ cZ cN cM xa na pa ta ba da ia rc, nW cI cJ cZ cN cM na sz sa mo li lo he, tW cI cJ cZ cN cM ta ri rs gr fm tt co le wa ar hd] [1] [0, 2] 3 rfl rfl (by decide) rfl (List.append_nil _) (List.append_nil _)) rfl rfl (Nat.le_of_ble_eq_true rfl) dX7_at_5 ⟨Nat.zero_le _, Nat.zero_le _⟩ ?_
  refine q_if_ne C 14 dX7_at_8 (by decide) hf (fun hf => ?_) (fun hf => ?_)
  · refine q_aload_n C 0 dX7_at_14 rfl ?_
    refine q_get C 0 2 dX7_at_15 rfl rfl (Nat.le_of_ble_eq_true rfl) inX7_at_X7 lkX7_at_3 rfl rfl ?_
    refine q_aload_n C 0 dX7_at_18 rfl ?_
    refine q_get C 0 0 dX7_at_19 rfl rfl (Nat.le_of_ble_eq_true rfl) inX7_at_X7 lkX7_at_1 rfl rfl ?_
    obtain ⟨ri_22, rs_22, gr_22, fm_22, tt_22, co_22, le_22, wa_22, ar_22, hM, hf⟩ := bd9_e hf
    refine q_callVV C (List.flatten [xW cI cJ cZ cN cM xa na pa ta ba da ia rc, nW cI cJ cZ cN cM na sz sa mo li lo he, tW cI cJ cZ cN cM ta ri_22 rs_22 gr_22 fm_22 tt_22 co_22 le_22 wa_22 ar_22 hd]) (kX6_trace l D cI cJ cZ cN cM ta na ri rs gr fm tt co le wa ar hd sz sa mo li lo he  ri_22 rs_22 gr_22 fm_22 tt_22 co_22 le_22 wa_22 ar_22 hM) (cwV 1 C.1.2.2.2.2 gX7_at_X6_trace rfl rfl rfl hdX6_trace ⟨Nat.le_of_ble_eq_true rfl, Nat.le_of_ble_eq_true rfl⟩) 6 5 rfl rfl (FrX.blk [xW cI cJ cZ cN cM xa na pa ta ba da ia rc, nW cI cJ cZ cN cM na sz sa mo li lo he, tW cI cJ cZ cN cM ta ri rs gr fm tt co le wa ar hd] [xW cI cJ cZ cN cM xa na pa ta ba da ia rc, nW cI cJ cZ cN cM na sz sa mo li lo he, tW cI cJ cZ cN cM ta ri_22 rs_22 gr_22 fm_22 tt_22 co_22 le_22 wa_22 ar_22 hd] [2, 1] [0] 3 rfl rfl (by decide) rfl rfl rfl) rfl rfl (Nat.le_of_ble_eq_true rfl) dX7_at_22 ⟨Nat.zero_le _, Nat.zero_le _⟩ ?_
    refine q_iload_n C 2 dX7_at_25 rfl ?_
    refine q_sw C 0 38 0 64 dX7_at_26 rfl (by decide) (by decide) rfl (by decide) hf (fun hf => ?_) (fun hn0 hf => ?_)
    · refine q_aload_n C 0 dX7_at_64 rfl ?_
      refine q_get C 0 2 dX7_at_65 rfl rfl (Nat.le_of_ble_eq_true rfl) inX7_at_X7 lkX7_at_3 rfl rfl ?_
      refine q_get C 6 0 dX7_at_68 rfl rfl (Nat.le_of_ble_eq_true rfl) inX7_at_X6 lkX7_at_4 rfl rfl ?_
      refine q_iload_n C 1 dX7_at_71 rfl ?_
      refine q_iald C 7 0 dX7_at_72 rfl rfl hf (fun x72 hf => ?_)
      have hy0 := Option.some.inj hf
      clear hf
      obtain ⟨hz1, hy1⟩ := Prod.mk.inj hy0
      clear hy0
      obtain ⟨hz2, hy2⟩ := Prod.mk.inj hy1
      clear hy1
      obtain ⟨hz3, hy3⟩ := Prod.mk.inj hy2
      clear hy2
      obtain ⟨hz4, hy4⟩ := Prod.mk.inj hy3
      clear hy3
      obtain ⟨hz5, hy5⟩ := Prod.mk.inj hy4
      clear hy4
      obtain ⟨hz6, hy6⟩ := Prod.mk.inj hy5
      clear hy5
      obtain ⟨hz7, hy7⟩ := Prod.mk.inj hy6
      clear hy6
      obtain ⟨hz8, hy8⟩ := Prod.mk.inj hy7
      clear hy7
      obtain ⟨hz9, hy9⟩ := Prod.mk.inj hy8
      clear hy8
      subst hz1
      subst hz2
      subst hz3
      subst hz4
      subst hz5
      subst hz6
      subst hz7
      subst hz8
      subst hz9
      subst hy9
      exact hret _ _ dX7_at_73 rfl
    refine q_sw C 1 48 1 74 dX7_at_26 rfl (by decide) (by decide) rfl (by decide) hf (fun hf => ?_) (fun hn1 hf => ?_)
    · refine q_aload_n C 0 dX7_at_74 rfl ?_
      refine q_get C 0 0 dX7_at_75 rfl rfl (Nat.le_of_ble_eq_true rfl) inX7_at_X7 lkX7_at_1 rfl rfl ?_
      refine q_get C 2 3 dX7_at_78 rfl rfl (Nat.le_of_ble_eq_true rfl) inX7_at_X3 lkX7_at_5 rfl rfl ?_
      refine q_iload_n C 1 dX7_at_81 rfl ?_
      refine q_iald C 3 0 dX7_at_82 rfl rfl hf (fun x82 hf => ?_)
      have hy0 := Option.some.inj hf
      clear hf
      obtain ⟨hz1, hy1⟩ := Prod.mk.inj hy0
      clear hy0
      obtain ⟨hz2, hy2⟩ := Prod.mk.inj hy1
      clear hy1
      obtain ⟨hz3, hy3⟩ := Prod.mk.inj hy2
      clear hy2
      obtain ⟨hz4, hy4⟩ := Prod.mk.inj hy3
      clear hy3
      obtain ⟨hz5, hy5⟩ := Prod.mk.inj hy4
      clear hy4
      obtain ⟨hz6, hy6⟩ := Prod.mk.inj hy5
      clear hy5
      obtain ⟨hz7, hy7⟩ := Prod.mk.inj hy6
      clear hy6
      obtain ⟨hz8, hy8⟩ := Prod.mk.inj hy7
      clear hy7
      obtain ⟨hz9, hy9⟩ := Prod.mk.inj hy8
      clear hy8
      subst hz1
      subst hz2
      subst hz3
      subst hz4
      subst hz5
      subst hz6
      subst hz7
      subst hz8
      subst hz9
      subst hy9
      exact hret _ _ dX7_at_83 rfl
    refine q_sw C 2 58 2 84 dX7_at_26 rfl (by decide) (by decide) rfl (by decide) hf (fun hf => ?_) (fun hn2 hf => ?_)
    · refine q_aload_n C 0 dX7_at_84 rfl ?_
      refine q_get C 0 2 dX7_at_85 rfl rfl (Nat.le_of_ble_eq_true rfl) inX7_at_X7 lkX7_at_3 rfl rfl ?_
      refine q_aload_n C 0 dX7_at_88 rfl ?_
      refine q_get C 0 0 dX7_at_89 rfl rfl (Nat.le_of_ble_eq_true rfl) inX7_at_X7 lkX7_at_1 rfl rfl ?_
      refine q_iload_n C 1 dX7_at_92 rfl ?_
      obtain ⟨x93, hM, hf⟩ := bd_e hf
      refine q_callVI C (List.flatten [xW cI cJ cZ cN cM xa na pa ta ba da ia rc, nW cI cJ cZ cN cM na sz sa mo li lo he, tW cI cJ cZ cN cM ta ri_22 rs_22 gr_22 fm_22 tt_22 co_22 le_22 wa_22 ar_22 hd]) (kX6_uppers l D cI cJ cZ cN cM ta na ri_22 rs_22 gr_22 fm_22 tt_22 co_22 le_22 wa_22 ar_22 hd sz sa mo li lo he v1 x93 hM) (cwV 2 C.1.2.2.2.2 gX7_at_X6_uppers rfl rfl rfl hdX6_uppers ⟨Nat.le_of_ble_eq_true rfl, Nat.le_of_ble_eq_true rfl⟩) 6 5 rfl rfl (FrX.blk [xW cI cJ cZ cN cM xa na pa ta ba da ia rc, nW cI cJ cZ cN cM na sz sa mo li lo he, tW cI cJ cZ cN cM ta ri_22 rs_22 gr_22 fm_22 tt_22 co_22 le_22 wa_22 ar_22 hd] [xW cI cJ cZ cN cM xa na pa ta ba da ia rc, nW cI cJ cZ cN cM na sz sa mo li lo he, tW cI cJ cZ cN cM ta ri_22 rs_22 gr_22 fm_22 tt_22 co_22 le_22 wa_22 ar_22 hd] [2, 1] [0] 3 rfl rfl (by decide) rfl rfl rfl) rfl rfl (Nat.le_of_ble_eq_true rfl) dX7_at_93 ⟨Nat.zero_le _, Nat.zero_le _⟩ ?_
      have hy0 := Option.some.inj hf
      clear hf
      obtain ⟨hz1, hy1⟩ := Prod.mk.inj hy0
      clear hy0
      obtain ⟨hz2, hy2⟩ := Prod.mk.inj hy1
      clear hy1
      obtain ⟨hz3, hy3⟩ := Prod.mk.inj hy2
      clear hy2
      obtain ⟨hz4, hy4⟩ := Prod.mk.inj hy3
      clear hy3
      obtain ⟨hz5, hy5⟩ := Prod.mk.inj hy4
      clear hy4
      obtain ⟨hz6, hy6⟩ := Prod.mk.inj hy5
      clear hy5
      obtain ⟨hz7, hy7⟩ := Prod.mk.inj hy6
      clear hy6
      obtain ⟨hz8, hy8⟩ := Prod.mk.inj hy7
      clear hy7
      obtain ⟨hz9, hy9⟩ := Prod.mk.inj hy8
      clear hy8
      subst hz1
      subst hz2
      subst hz3
      subst hz4
      subst hz5
      subst hz6
      subst hz7
      subst hz8
      subst hz9
      subst hy9
      exact hret _ _ dX7_at_96 rfl
    refine q_sw C 3 71 3 97 dX7_at_26 rfl (by decide) (by decide) rfl (by decide) hf (fun hf => ?_) (fun hn3 hf => ?_)
    · refine q_aload_n C 0 dX7_at_97 rfl ?_
      refine q_get C 0 0 dX7_at_98 rfl rfl (Nat.le_of_ble_eq_true rfl) inX7_at_X7 lkX7_at_1 rfl rfl ?_
      refine q_get C 2 5 dX7_at_101 rfl rfl (Nat.le_of_ble_eq_true rfl) inX7_at_X3 lkX7_at_6 rfl rfl ?_
      refine q_iload_n C 1 dX7_at_104 rfl ?_
      refine q_iald C 5 0 dX7_at_105 rfl rfl hf (fun x105 hf => ?_)
      have hy0 := Option.some.inj hf
      clear hf
      obtain ⟨hz1, hy1⟩ := Prod.mk.inj hy0
      clear hy0
      obtain ⟨hz2, hy2⟩ := Prod.mk.inj hy1
      clear hy1
      obtain ⟨hz3, hy3⟩ := Prod.mk.inj hy2
      clear hy2
      obtain ⟨hz4, hy4⟩ := Prod.mk.inj hy3
      clear hy3
      obtain ⟨hz5, hy5⟩ := Prod.mk.inj hy4
      clear hy4
      obtain ⟨hz6, hy6⟩ := Prod.mk.inj hy5
      clear hy5
      obtain ⟨hz7, hy7⟩ := Prod.mk.inj hy6
      clear hy6
      obtain ⟨hz8, hy8⟩ := Prod.mk.inj hy7
      clear hy7
      obtain ⟨hz9, hy9⟩ := Prod.mk.inj hy8
      clear hy8
      subst hz1
      subst hz2
      subst hz3
      subst hz4
      subst hz5
      subst hz6
      subst hz7
      subst hz8
      subst hz9
      subst hy9
      exact hret _ _ dX7_at_106 rfl
    refine q_sw C 4 81 4 107 dX7_at_26 rfl (by decide) (by decide) rfl (by decide) hf (fun hf => ?_) (fun hn4 hf => ?_)
    · refine q_aload_n C 0 dX7_at_107 rfl ?_
      refine q_get C 0 2 dX7_at_108 rfl rfl (Nat.le_of_ble_eq_true rfl) inX7_at_X7 lkX7_at_3 rfl rfl ?_
      refine q_get C 6 7 dX7_at_111 rfl rfl (Nat.le_of_ble_eq_true rfl) inX7_at_X6 lkX7_at_7 rfl rfl ?_
      refine q_iload_n C 1 dX7_at_114 rfl ?_
      refine q_iald C 12 0 dX7_at_115 rfl rfl hf (fun x115 hf => ?_)
      have hy0 := Option.some.inj hf
      clear hf
      obtain ⟨hz1, hy1⟩ := Prod.mk.inj hy0
      clear hy0
      obtain ⟨hz2, hy2⟩ := Prod.mk.inj hy1
      clear hy1
      obtain ⟨hz3, hy3⟩ := Prod.mk.inj hy2
      clear hy2
      obtain ⟨hz4, hy4⟩ := Prod.mk.inj hy3
      clear hy3
      obtain ⟨hz5, hy5⟩ := Prod.mk.inj hy4
      clear hy4
      obtain ⟨hz6, hy6⟩ := Prod.mk.inj hy5
      clear hy5
      obtain ⟨hz7, hy7⟩ := Prod.mk.inj hy6
      clear hy6
      obtain ⟨hz8, hy8⟩ := Prod.mk.inj hy7
      clear hy7
      obtain ⟨hz9, hy9⟩ := Prod.mk.inj hy8
      clear hy8
      subst hz1
      subst hz2
      subst hz3
      subst hz4
      subst hz5
      subst hz6
      subst hz7
      subst hz8
      subst hz9
      subst hy9
      exact hret _ _ dX7_at_116 rfl
    refine q_sw C 5 91 5 117 dX7_at_26 rfl (by decide) (by decide) rfl (by decide) hf (fun hf => ?_) (fun hn5 hf => ?_)
    · refine q_aload_n C 0 dX7_at_117 rfl ?_
      refine q_get C 0 2 dX7_at_118 rfl rfl (Nat.le_of_ble_eq_true rfl) inX7_at_X7 lkX7_at_3 rfl rfl ?_
      refine q_get C 6 8 dX7_at_121 rfl rfl (Nat.le_of_ble_eq_true rfl) inX7_at_X6 lkX7_at_8 rfl rfl ?_
      refine q_iload_n C 1 dX7_at_124 rfl ?_
      refine q_iald C 13 0 dX7_at_125 rfl rfl hf (fun x125 hf => ?_)
      have hy0 := Option.some.inj hf
      clear hf
      obtain ⟨hz1, hy1⟩ := Prod.mk.inj hy0
      clear hy0
      obtain ⟨hz2, hy2⟩ := Prod.mk.inj hy1
      clear hy1
      obtain ⟨hz3, hy3⟩ := Prod.mk.inj hy2
      clear hy2
      obtain ⟨hz4, hy4⟩ := Prod.mk.inj hy3
      clear hy3
      obtain ⟨hz5, hy5⟩ := Prod.mk.inj hy4
      clear hy4
      obtain ⟨hz6, hy6⟩ := Prod.mk.inj hy5
      clear hy5
      obtain ⟨hz7, hy7⟩ := Prod.mk.inj hy6
      clear hy6
      obtain ⟨hz8, hy8⟩ := Prod.mk.inj hy7
      clear hy7
      obtain ⟨hz9, hy9⟩ := Prod.mk.inj hy8
      clear hy8
      subst hz1
      subst hz2
      subst hz3
      subst hz4
      subst hz5
      subst hz6
      subst hz7
      subst hz8
      subst hz9
      subst hy9
      exact hret _ _ dX7_at_126 rfl
    have e0 := lv_neT (a := 0) hn0 rfl
    have e1 := lv_neT (a := 1) hn1 rfl
    have e2 := lv_neT (a := 2) hn2 rfl
    have e3 := lv_neT (a := 3) hn3 rfl
    have e4 := lv_neT (a := 4) hn4 rfl
    have e5 := lv_neT (a := 5) hn5 rfl
    refine q_swD C 127 dX7_at_26 (by omega) (by decide) ?_
    refine q_ldc C dX7_at_127 lkX7_at_9 ?_
    have hy0 := Option.some.inj hf
    clear hf
    obtain ⟨hz1, hy1⟩ := Prod.mk.inj hy0
    clear hy0
    obtain ⟨hz2, hy2⟩ := Prod.mk.inj hy1
    clear hy1
    obtain ⟨hz3, hy3⟩ := Prod.mk.inj hy2
    clear hy2
    obtain ⟨hz4, hy4⟩ := Prod.mk.inj hy3
    clear hy3
    obtain ⟨hz5, hy5⟩ := Prod.mk.inj hy4
    clear hy4
    obtain ⟨hz6, hy6⟩ := Prod.mk.inj hy5
    clear hy5
    obtain ⟨hz7, hy7⟩ := Prod.mk.inj hy6
    clear hy6
    obtain ⟨hz8, hy8⟩ := Prod.mk.inj hy7
    clear hy7
    obtain ⟨hz9, hy9⟩ := Prod.mk.inj hy8
    clear hy8
    subst hz1
    subst hz2
    subst hz3
    subst hz4
    subst hz5
    subst hz6
    subst hz7
    subst hz8
    subst hz9
    subst hy9
    exact hret _ _ dX7_at_129 rfl
  · refine q_ldc C dX7_at_11 lkX7_at_2 ?_
    have hy0 := Option.some.inj hf
    clear hf
    obtain ⟨hz1, hy1⟩ := Prod.mk.inj hy0
    clear hy0
    obtain ⟨hz2, hy2⟩ := Prod.mk.inj hy1
    clear hy1
    obtain ⟨hz3, hy3⟩ := Prod.mk.inj hy2
    clear hy2
    obtain ⟨hz4, hy4⟩ := Prod.mk.inj hy3
    clear hy3
    obtain ⟨hz5, hy5⟩ := Prod.mk.inj hy4
    clear hy4
    obtain ⟨hz6, hy6⟩ := Prod.mk.inj hy5
    clear hy5
    obtain ⟨hz7, hy7⟩ := Prod.mk.inj hy6
    clear hy6
    obtain ⟨hz8, hy8⟩ := Prod.mk.inj hy7
    clear hy7
    obtain ⟨hz9, hy9⟩ := Prod.mk.inj hy8
    clear hy8
    subst hz1
    subst hz2
    subst hz3
    subst hz4
    subst hz5
    subst hz6
    subst hz7
    subst hz8
    subst hz9
    subst hy9
    exact hret _ _ dX7_at_13 rfl

theorem lkX7_isLost_1 : Cond.fieldLink RX7 10 "TwiceHeard" "net" "LTwiceHeard$Net;" ∈ wsX7_isLost := List.mem_of_getElem? (i := 1) rfl
theorem lkX7_isLost_2 : Cond.constant RX7 110 (-1000000001) ∈ wsX7_isLost := List.mem_of_getElem? (i := 2) rfl
theorem inX7_isLost_X7 : ∀ w ∈ wsX70, w ∈ wsX7_isLost := fun w h => List.mem_cons_of_mem _ (List.mem_append_left _ (List.mem_append_right _ h))
theorem inX7_isLost_X3 : ∀ w ∈ wsX30, w ∈ wsX7_isLost := fun w h => List.mem_cons_of_mem _ (List.mem_append_right _ h)
abbrev rmX7_isLost : Room := { frames := 2, cells := 0, slots := 0, locals := 43 }
theorem hdX7_isLost : yX7_isLost.cls = RX7 ∧ yX7_isLost.cls ≠ "java/lang/invoke/MethodHandle" ∧ yX7_isLost.cls ≠ "java/lang/invoke/VarHandle" ∧ (parseMethodDescriptor yX7_isLost.desc).map (fun d => d.parameters.length) = some 2 := by decide +kernel
def fX7_isLost (sz : Int32) (li : (Nat → Int32)) (lo : (Nat → Int32)) (v1 : Int32) (v2 : Int32) : Option (Int32) :=
  (fX3_hasLink sz li v1 v2).bind fun x6 =>
  if x6 = 0 then (
  some (-1000000001 : Int32)) else (
  (fX3_hasLost sz lo v1 v2).bind fun x21 =>
  if x21 = 0 then (
  some (0 : Int32)) else (
  some (1 : Int32)))
set_option maxRecDepth 100000 in
set_option maxHeartbeats 4000000 in
theorem kX7_isLost (l : Launch) (D : va_G) (cI cJ cZ cN cM : ClassId) (xa : Nat → Nat) (na : Nat → Nat) (pa : Nat → Nat) (ta : Nat → Nat) (ba : Nat → Nat) (da : Nat → Nat) (ia : Nat → Nat) (rc : (Nat → Int64)) (sz : Int32) (sa : Int32) (mo : Int32) (li : (Nat → Int32)) (lo : (Nat → Int32)) (he : (Nat → Int32)) (v1 : Int32) (v2 : Int32) (r : Int32) (hf : fX7_isLost sz li lo v1 v2 = some r) : MetI l yX7_isLost wsX7_isLost rmX7_isLost D (TYL cI cJ cZ cN cM) [.ref (xa 0), .int v1, .int v2] (List.flatten [xW cI cJ cZ cN cM xa na pa ta ba da ia rc, nW cI cJ cZ cN cM na sz sa mo li lo he]) (List.flatten [xW cI cJ cZ cN cM xa na pa ta ba da ia rc, nW cI cJ cZ cN cM na sz sa mo li lo he]) r := by
  refine MetI.mk (cc := cX7_isLost) (maxL := 3) (own := RX7) (ty := .int) [(0, .ref (xa 0)), (1, .int v1), (2, .int v2)] (by decide +kernel) rfl rfl (Nat.le_of_ble_eq_true rfl) rfl ?_
  intro p e s m args below meth c A Q C hret
  unfold fX7_isLost at hf
  refine q_aload_n C 0 dX7_isLost_0 rfl ?_
  refine q_get C 0 0 dX7_isLost_1 rfl rfl (Nat.le_of_ble_eq_true rfl) inX7_isLost_X7 lkX7_isLost_1 rfl rfl ?_
  refine q_iload_n C 1 dX7_isLost_4 rfl ?_
  refine q_iload_n C 2 dX7_isLost_5 rfl ?_
  obtain ⟨x6, hM, hf⟩ := bd_e hf
  refine q_callVI C (List.flatten [xW cI cJ cZ cN cM xa na pa ta ba da ia rc, nW cI cJ cZ cN cM na sz sa mo li lo he]) (kX3_hasLink l D cI cJ cZ cN cM na sz sa mo li lo he v1 v2 x6 hM) (cwV 2 C.1.2.2.2.2 gX7_isLost_X3_hasLink rfl rfl rfl hdX3_hasLink ⟨Nat.le_of_ble_eq_true rfl, Nat.le_of_ble_eq_true rfl⟩) 2 3 rfl rfl (FrX.blk [xW cI cJ cZ cN cM xa na pa ta ba da ia rc, nW cI cJ cZ cN cM na sz sa mo li lo he] [xW cI cJ cZ cN cM xa na pa ta ba da ia rc, nW cI cJ cZ cN cM na sz sa mo li lo he] [1] [0] 2 rfl rfl (by decide) rfl (List.append_nil _) (List.append_nil _)) rfl rfl (Nat.le_of_ble_eq_true rfl) dX7_isLost_6 ⟨Nat.zero_le _, Nat.zero_le _⟩ ?_
  refine q_if_ne C 15 dX7_isLost_9 (by decide) hf (fun hf => ?_) (fun hf => ?_)
  · refine q_aload_n C 0 dX7_isLost_15 rfl ?_
    refine q_get C 0 0 dX7_isLost_16 rfl rfl (Nat.le_of_ble_eq_true rfl) inX7_isLost_X7 lkX7_isLost_1 rfl rfl ?_
    refine q_iload_n C 1 dX7_isLost_19 rfl ?_
    refine q_iload_n C 2 dX7_isLost_20 rfl ?_
    obtain ⟨x21, hM, hf⟩ := bd_e hf
    refine q_callVI C (List.flatten [xW cI cJ cZ cN cM xa na pa ta ba da ia rc, nW cI cJ cZ cN cM na sz sa mo li lo he]) (kX3_hasLost l D cI cJ cZ cN cM na sz sa mo li lo he v1 v2 x21 hM) (cwV 2 C.1.2.2.2.2 gX7_isLost_X3_hasLost rfl rfl rfl hdX3_hasLost ⟨Nat.le_of_ble_eq_true rfl, Nat.le_of_ble_eq_true rfl⟩) 2 3 rfl rfl (FrX.blk [xW cI cJ cZ cN cM xa na pa ta ba da ia rc, nW cI cJ cZ cN cM na sz sa mo li lo he] [xW cI cJ cZ cN cM xa na pa ta ba da ia rc, nW cI cJ cZ cN cM na sz sa mo li lo he] [1] [0] 2 rfl rfl (by decide) rfl (List.append_nil _) (List.append_nil _)) rfl rfl (Nat.le_of_ble_eq_true rfl) dX7_isLost_21 ⟨Nat.zero_le _, Nat.zero_le _⟩ ?_
    refine q_if_eq C 31 dX7_isLost_24 (by decide) hf (fun hf => ?_) (fun hf => ?_)
    · refine q_iconst C 0 dX7_isLost_31 (by decide) ?_
      have hz1 := Option.some.inj hf
      clear hf
      subst hz1
      exact hret _ _ dX7_isLost_32 rfl
    · refine q_iconst C 1 dX7_isLost_27 (by decide) ?_
      refine q_goto C 32 dX7_isLost_28 (by decide) ?_
      have hz1 := Option.some.inj hf
      clear hf
      subst hz1
      exact hret _ _ dX7_isLost_32 rfl
  · refine q_ldc C dX7_isLost_12 lkX7_isLost_2 ?_
    have hz1 := Option.some.inj hf
    clear hf
    subst hz1
    exact hret _ _ dX7_isLost_14 rfl
