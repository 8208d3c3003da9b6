theorem lkX8_layHeld_1 : Cond.fieldLink RX8 9 "TwiceHeardModel" "w" "[I" ∈ wsX8_layHeld := List.mem_of_getElem? (i := 1) rfl
theorem lkX8_layHeld_2 : Cond.fieldLink RX8 34 "TwiceHeardModel" "held" "[J" ∈ wsX8_layHeld := List.mem_of_getElem? (i := 2) rfl
theorem lkX8_layHeld_3 : Cond.fieldLink RX8 77 "TwiceHeardModel" "letters" "I" ∈ wsX8_layHeld := List.mem_of_getElem? (i := 3) rfl
theorem lkX8_layHeld_4 : Cond.fieldLink RX8 28 "TwiceHeardModel" "to" "[I" ∈ wsX8_layHeld := List.mem_of_getElem? (i := 4) rfl
theorem lkX8_layHeld_5 : Cond.fieldLink RX8 25 "TwiceHeardModel" "from" "[I" ∈ wsX8_layHeld := List.mem_of_getElem? (i := 5) rfl
theorem inX8_layHeld_X8 : ∀ w ∈ wsX80, w ∈ wsX8_layHeld := fun w h => List.mem_cons_of_mem _ (List.mem_append_right _ h)
abbrev rmX8_layHeld : Room := { frames := 4, cells := 0, slots := 0, locals := 102 }
theorem hdX8_layHeld : yX8_layHeld.cls = RX8 ∧ yX8_layHeld.cls ≠ "java/lang/invoke/MethodHandle" ∧ yX8_layHeld.cls ≠ "java/lang/invoke/VarHandle" ∧ (parseMethodDescriptor yX8_layHeld.desc).map (fun d => d.parameters.length) = some 1 := by decide +kernel
def fX8_layHeld_L6 (w : (Nat → Int32)) (v1 : Int32) : Nat → Int32 → (Nat → Int64) → (Nat → Int32) → Option ((Nat → Int64) × (Nat → Int32))
  | 0, _, _, _ => none
  | n + 1, v2, hd, sx =>
  if (w 0) ≤ v2 then (
  some (hd, sx)) else (
  (rdI 570 w ((21 : Int32) + v2)).bind fun x31 =>
  bd2 (fX8_summary w sx v1 x31) fun x32 sx_32 =>
  (wrL 9 hd v2 x32).bind fun hd_35 =>
  fX8_layHeld_L6 w v1 n (v2 + 1) hd_35 sx_32)
def fX8_layHeld_L44 (w : (Nat → Int32)) (fm : (Nat → Int32)) (tt : (Nat → Int32)) (le : Int32) (v1 : Int32) : Nat → Int32 → (Nat → Int64) → (Nat → Int32) → Option ((Nat → Int64) × (Nat → Int32))
  | 0, _, _, _ => none
  | n + 1, v2, hd, sx =>
  if le ≤ v2 then (
  some (hd, sx)) else (
  (rdI 40 tt v2).bind fun x61 =>
  (fX8_comes w fm tt v2).bind fun x64 =>
  jn2 (fun (t0_111 : Int64) (sx_111 : (Nat → Int32)) => 
  (wrL 9 hd x61 t0_111).bind fun hd_111 =>
  fX8_layHeld_L44 w fm tt le v1 n (v2 + 1) hd_111 sx_111) fun k111 =>
  if x64 = 0 then (
  (rdI 40 tt v2).bind fun x109 =>
  (rdL 9 hd x109).bind fun x110 =>
  k111 x110 sx) else (
  (rdI 40 tt v2).bind fun x81 =>
  (rdL 9 hd x81).bind fun x82 =>
  (rdI 40 fm v2).bind fun x92 =>
  (rdL 9 hd x92).bind fun x93 =>
  bd2 (fX8_both sx v1 x82 x93) fun x94 sx_94 =>
  k111 x94 sx_94))
def fX8_layHeld (w : (Nat → Int32)) (ri : (Nat → Int32)) (fm : (Nat → Int32)) (tt : (Nat → Int32)) (le : Int32) (hd : (Nat → Int64)) (sx : (Nat → Int32)) (v1 : Int32) : Option ((Nat → Int32) × (Nat → Int32) × (Nat → Int32) × Int32 × (Nat → Int64) × (Nat → Int32)) :=
  bd4 (fX8_layLetters w ri fm tt le) fun ri_1 fm_1 tt_1 le_1 =>
  bd2 (fX8_layHeld_L6 w v1 300 (0 : Int32) hd sx) fun hd_6 sx_6 =>
  bd2 (fX8_layHeld_L44 w fm_1 tt_1 le_1 v1 300 (0 : Int32) hd_6 sx_6) fun hd_44 sx_44 =>
  some (ri_1, fm_1, tt_1, le_1, hd_44, sx_44)
set_option maxRecDepth 100000 in
set_option maxHeartbeats 4000000 in
theorem wX8_layHeld_L6 {p : Program} {l : Launch} {e : Env} {s : State} {m : MethodId} {args : Array Value} {below : List Frame} {meth : Method} {c : Code} {Q : State → Prop} {D : va_G} {A : Nat → Prop} {cI cJ cZ cN cM : ClassId} (C : Cx p s m args c cX8_layHeld 3 RX8 wsX8_layHeld D (TYL cI cJ cZ cN cM) A) (a : Nat → Nat) (w : (Nat → Int32)) (kn : Int32) (kp : Int32) (sd : Int32) (ks : (Nat → Int32)) (bo : (Nat → Int32)) (bi : (Nat → Int32)) (bk : Int32) (ri : (Nat → Int32)) (fm : (Nat → Int32)) (tt : (Nat → Int32)) (le : Int32) (wa : (Nat → Int32)) (b1 : (Nat → Int64)) (b2 : (Nat → Int64)) (v1 : Int32) (hd_o : (Nat → Int64)) (sx_o : (Nat → Int32)) (kk : WW p l e rmX8_layHeld s m args below meth c Q D A 3 0 0 (mW cI cJ cZ cN cM a w kn kp sd ks bo bi bk ri fm tt le wa hd_o sx_o b1 b2) [(0, .ref (a 0)), (1, .int v1)] 42 []) : ∀ (n : Nat) (v2 : Int32) (hd : (Nat → Int64)) (sx : (Nat → Int32)), fX8_layHeld_L6 w v1 n v2 hd sx = some (hd_o, sx_o) → WW p l e rmX8_layHeld s m args below meth c Q D A 3 0 0 (mW cI cJ cZ cN cM a w kn kp sd ks bo bi bk ri fm tt le wa hd sx b1 b2) [(0, .ref (a 0)), (1, .int v1), (2, .int v2)] 6 [] := by
  intro n
  induction n with
  | zero =>
    intro v2 hd sx hf
    rw [fX8_layHeld_L6] at hf
    cases hf
  | succ n ih =>
    intro v2 hd sx hf
    rw [fX8_layHeld_L6] at hf
    refine q_iload_n C 2 dX8_layHeld_6 rfl ?_
    refine q_aload_n C 0 dX8_layHeld_7 rfl ?_
    refine q_get C 0 0 dX8_layHeld_8 rfl rfl (Nat.le_of_ble_eq_true rfl) inX8_layHeld_X8 lkX8_layHeld_1 rfl rfl ?_
    refine q_iconst C 0 dX8_layHeld_11 (by decide) ?_
    refine q_ialdC C 1 0 dX8_layHeld_12 rfl rfl (by unfold vp_in; decide) (x := (w 0)) rfl ?_
    refine q_icmp_ge C 42 dX8_layHeld_13 (by decide) hf (fun hf => ?_) (fun hf => ?_)
    · refine q_lv [(0, .ref (a 0)), (1, .int v1)] [0, 1] rfl ?_
      have hy0 := Option.some.inj hf
      clear hf
      obtain ⟨hz1, hy1⟩ := Prod.mk.inj hy0
      clear hy0
      subst hz1
      subst hy1
      exact kk
    · refine q_aload_n C 0 dX8_layHeld_16 rfl ?_
      refine q_get C 0 13 dX8_layHeld_17 rfl rfl (Nat.le_of_ble_eq_true rfl) inX8_layHeld_X8 lkX8_layHeld_2 rfl rfl ?_
      refine q_iload_n C 2 dX8_layHeld_20 rfl ?_
      refine q_aload_n C 0 dX8_layHeld_21 rfl ?_
      refine q_iload_n C 1 dX8_layHeld_22 rfl ?_
      refine q_aload_n C 0 dX8_layHeld_23 rfl ?_
      refine q_get C 0 0 dX8_layHeld_24 rfl rfl (Nat.le_of_ble_eq_true rfl) inX8_layHeld_X8 lkX8_layHeld_1 rfl rfl ?_
      refine q_bipush C 21 dX8_layHeld_27 (by decide) ?_
      refine q_iload_n C 2 dX8_layHeld_29 rfl ?_
      refine q_iadd C dX8_layHeld_30 ?_
      refine q_iald C 1 0 dX8_layHeld_31 rfl rfl hf (fun x31 hf => ?_)
      obtain ⟨x32, sx_32, hM, hf⟩ := bd2_e hf
      refine q_callVL C (mW cI cJ cZ cN cM a w kn kp sd ks bo bi bk ri fm tt le wa hd sx_32 b1 b2) (kX8_summary l D cI cJ cZ cN cM a w kn kp sd ks bo bi bk ri fm tt le wa hd sx b1 b2 v1 x31 x32 sx_32 hM) (cwV 2 C.1.2.2.2.2 gX8_layHeld_X8_summary rfl rfl rfl hdX8_summary ⟨Nat.le_of_ble_eq_true rfl, Nat.le_of_ble_eq_true rfl⟩) 0 7 rfl rfl FrX.all rfl rfl (Nat.le_of_ble_eq_true rfl) dX8_layHeld_32 ⟨Nat.zero_le _, Nat.zero_le _⟩ ?_
      refine q_last C 9 1 (fun hd_35 => mW cI cJ cZ cN cM a w kn kp sd ks bo bi bk ri fm tt le wa hd_35 sx_32 b1 b2) dX8_layHeld_35 rfl rfl (fun _ => rfl) hf (fun hd_35 hf => ?_)
      refine q_iinc C (v2 + 1) 2 [(2, .int (v2 + 1)), (0, .ref (a 0)), (1, .int v1)] dX8_layHeld_36 rfl rfl (by decide) rfl ?_
      refine q_goto C 6 dX8_layHeld_39 (by decide) ?_
      refine q_lv [(0, .ref (a 0)), (1, .int v1), (2, .int (v2 + 1))] [1, 2, 0] rfl ?_
      exact ih _ _ _ hf
set_option maxRecDepth 100000 in
set_option maxHeartbeats 4000000 in
theorem wX8_layHeld_L44 {p : Program} {l : Launch} {e : Env} {s : State} {m : MethodId} {args : Array Value} {below : List Frame} {meth : Method} {c : Code} {Q : State → Prop} {D : va_G} {A : Nat → Prop} {cI cJ cZ cN cM : ClassId} (C : Cx p s m args c cX8_layHeld 3 RX8 wsX8_layHeld D (TYL cI cJ cZ cN cM) A) (a : Nat → Nat) (w : (Nat → Int32)) (kn : Int32) (kp : Int32) (sd : Int32) (ks : (Nat → Int32)) (bo : (Nat → Int32)) (bi : (Nat → Int32)) (bk : Int32) (ri : (Nat → Int32)) (fm : (Nat → Int32)) (tt : (Nat → Int32)) (le : Int32) (wa : (Nat → Int32)) (b1 : (Nat → Int64)) (b2 : (Nat → Int64)) (v1 : Int32) (hd_o : (Nat → Int64)) (sx_o : (Nat → Int32)) (kk : WW p l e rmX8_layHeld s m args below meth c Q D A 3 0 0 (mW cI cJ cZ cN cM a w kn kp sd ks bo bi bk ri fm tt le wa hd_o sx_o b1 b2) [] 118 []) : ∀ (n : Nat) (v2 : Int32) (hd : (Nat → Int64)) (sx : (Nat → Int32)), fX8_layHeld_L44 w fm tt le v1 n v2 hd sx = some (hd_o, sx_o) → WW p l e rmX8_layHeld s m args below meth c Q D A 3 0 0 (mW cI cJ cZ cN cM a w kn kp sd ks bo bi bk ri fm tt le wa hd sx b1 b2) [(0, .ref (a 0)), (1, .int v1), (2, .int v2)] 44 [] := by
  intro n
  induction n with
  | zero =>
    intro v2 hd sx hf
    rw [fX8_layHeld_L44] at hf
    cases hf
  | succ n ih =>
    intro v2 hd sx hf
    rw [fX8_layHeld_L44] at hf
    refine q_iload_n C 2 dX8_layHeld_44 rfl ?_
    refine q_aload_n C 0 dX8_layHeld_45 rfl ?_
    refine q_get C 0 11 dX8_layHeld_46 rfl rfl (Nat.le_of_ble_eq_true rfl) inX8_layHeld_X8 lkX8_layHeld_3 rfl rfl ?_
    refine q_icmp_ge C 118 dX8_layHeld_49 (by decide) hf (fun hf => ?_) (fun hf => ?_)
    · refine q_lv [] [] rfl ?_
      have hy0 := Option.some.inj hf
      clear hf
      obtain ⟨hz1, hy1⟩ := Prod.mk.inj hy0
      clear hy0
      subst hz1
      subst hy1
      exact kk
    · refine q_aload_n C 0 dX8_layHeld_52 rfl ?_
      refine q_get C 0 13 dX8_layHeld_53 rfl rfl (Nat.le_of_ble_eq_true rfl) inX8_layHeld_X8 lkX8_layHeld_2 rfl rfl ?_
      refine q_aload_n C 0 dX8_layHeld_56 rfl ?_
      refine q_get C 0 10 dX8_layHeld_57 rfl rfl (Nat.le_of_ble_eq_true rfl) inX8_layHeld_X8 lkX8_layHeld_4 rfl rfl ?_
      refine q_iload_n C 2 dX8_layHeld_60 rfl ?_
      refine q_iald C 7 0 dX8_layHeld_61 rfl rfl hf (fun x61 hf => ?_)
      refine q_aload_n C 0 dX8_layHeld_62 rfl ?_
      refine q_iload_n C 2 dX8_layHeld_63 rfl ?_
      obtain ⟨x64, hM, hf⟩ := bd_e hf
      refine q_callVI C (mW cI cJ cZ cN cM a w kn kp sd ks bo bi bk ri fm tt le wa hd sx b1 b2) (kX8_comes l D cI cJ cZ cN cM a w kn kp sd ks bo bi bk ri fm tt le wa hd sx b1 b2 v2 x64 hM) (cwV 1 C.1.2.2.2.2 gX8_layHeld_X8_comes rfl rfl rfl hdX8_comes ⟨Nat.le_of_ble_eq_true rfl, Nat.le_of_ble_eq_true rfl⟩) 0 7 rfl rfl FrX.all rfl rfl (Nat.le_of_ble_eq_true rfl) dX8_layHeld_64 ⟨Nat.zero_le _, Nat.zero_le _⟩ ?_
      refine jn2_e (fun (t0_111 : Int64) (sx_111 : (Nat → Int32)) => WW p l e rmX8_layHeld s m args below meth c Q D A 3 0 0 (mW cI cJ cZ cN cM a w kn kp sd ks bo bi bk ri fm tt le wa hd sx_111 b1 b2) [(0, .ref (a 0)), (1, .int v1), (2, .int v2)] 111 [.long t0_111, .int x61, .ref (a 9)]) hf ?_ ?_
      · intro t0_111 sx_111 hf
        refine q_last C 9 1 (fun hd_111 => mW cI cJ cZ cN cM a w kn kp sd ks bo bi bk ri fm tt le wa hd_111 sx_111 b1 b2) dX8_layHeld_111 rfl rfl (fun _ => rfl) hf (fun hd_111 hf => ?_)
        refine q_iinc C (v2 + 1) 2 [(2, .int (v2 + 1)), (0, .ref (a 0)), (1, .int v1)] dX8_layHeld_112 rfl rfl (by decide) rfl ?_
        refine q_goto C 44 dX8_layHeld_115 (by decide) ?_
        refine q_lv [(0, .ref (a 0)), (1, .int v1), (2, .int (v2 + 1))] [1, 2, 0] rfl ?_
        exact ih _ _ _ hf
      intro k111 J111 hf
      refine q_if_eq C 100 dX8_layHeld_67 (by decide) hf (fun hf => ?_) (fun hf => ?_)
      · refine q_aload_n C 0 dX8_layHeld_100 rfl ?_
        refine q_get C 0 13 dX8_layHeld_101 rfl rfl (Nat.le_of_ble_eq_true rfl) inX8_layHeld_X8 lkX8_layHeld_2 rfl rfl ?_
        refine q_aload_n C 0 dX8_layHeld_104 rfl ?_
        refine q_get C 0 10 dX8_layHeld_105 rfl rfl (Nat.le_of_ble_eq_true rfl) inX8_layHeld_X8 lkX8_layHeld_4 rfl rfl ?_
        refine q_iload_n C 2 dX8_layHeld_108 rfl ?_
        refine q_iald C 7 0 dX8_layHeld_109 rfl rfl hf (fun x109 hf => ?_)
        refine q_lald C 9 1 dX8_layHeld_110 rfl rfl hf (fun x110 hf => ?_)
        exact J111 _ _ hf
      · refine q_aload_n C 0 dX8_layHeld_70 rfl ?_
        refine q_iload_n C 1 dX8_layHeld_71 rfl ?_
        refine q_aload_n C 0 dX8_layHeld_72 rfl ?_
        refine q_get C 0 13 dX8_layHeld_73 rfl rfl (Nat.le_of_ble_eq_true rfl) inX8_layHeld_X8 lkX8_layHeld_2 rfl rfl ?_
        refine q_aload_n C 0 dX8_layHeld_76 rfl ?_
        refine q_get C 0 10 dX8_layHeld_77 rfl rfl (Nat.le_of_ble_eq_true rfl) inX8_layHeld_X8 lkX8_layHeld_4 rfl rfl ?_
        refine q_iload_n C 2 dX8_layHeld_80 rfl ?_
        refine q_iald C 7 0 dX8_layHeld_81 rfl rfl hf (fun x81 hf => ?_)
        refine q_lald C 9 1 dX8_layHeld_82 rfl rfl hf (fun x82 hf => ?_)
        refine q_aload_n C 0 dX8_layHeld_83 rfl ?_
        refine q_get C 0 13 dX8_layHeld_84 rfl rfl (Nat.le_of_ble_eq_true rfl) inX8_layHeld_X8 lkX8_layHeld_2 rfl rfl ?_
        refine q_aload_n C 0 dX8_layHeld_87 rfl ?_
        refine q_get C 0 9 dX8_layHeld_88 rfl rfl (Nat.le_of_ble_eq_true rfl) inX8_layHeld_X8 lkX8_layHeld_5 rfl rfl ?_
        refine q_iload_n C 2 dX8_layHeld_91 rfl ?_
        refine q_iald C 6 0 dX8_layHeld_92 rfl rfl hf (fun x92 hf => ?_)
        refine q_lald C 9 1 dX8_layHeld_93 rfl rfl hf (fun x93 hf => ?_)
        obtain ⟨x94, sx_94, hM, hf⟩ := bd2_e hf
        refine q_callVL C (mW cI cJ cZ cN cM a w kn kp sd ks bo bi bk ri fm tt le wa hd sx_94 b1 b2) (kX8_both l D cI cJ cZ cN cM a w kn kp sd ks bo bi bk ri fm tt le wa hd sx b1 b2 v1 x82 x93 x94 sx_94 hM) (cwV 3 C.1.2.2.2.2 gX8_layHeld_X8_both rfl rfl rfl hdX8_both ⟨Nat.le_of_ble_eq_true rfl, Nat.le_of_ble_eq_true rfl⟩) 0 7 rfl rfl FrX.all rfl rfl (Nat.le_of_ble_eq_true rfl) dX8_layHeld_94 ⟨Nat.zero_le _, Nat.zero_le _⟩ ?_
        refine q_goto C 111 dX8_layHeld_97 (by decide) ?_
        exact J111 _ _ hf
set_option maxRecDepth 100000 in
set_option maxHeartbeats 4000000 in
theorem kX8_layHeld (l : Launch) (D : va_G) (cI cJ cZ cN cM : ClassId) (a : Nat → Nat) (w : (Nat → Int32)) (kn : Int32) (kp : Int32) (sd : Int32) (ks : (Nat → Int32)) (bo : (Nat → Int32)) (bi : (Nat → Int32)) (bk : Int32) (ri : (Nat → Int32)) (fm : (Nat → Int32)) (tt : (Nat → Int32)) (le : Int32) (wa : (Nat → Int32)) (hd : (Nat → Int64)) (sx : (Nat → Int32)) (b1 : (Nat → Int64)) (b2 : (Nat → Int64)) (v1 : Int32) (ri_o : (Nat → Int32)) (fm_o : (Nat → Int32)) (tt_o : (Nat → Int32)) (le_o : Int32) (hd_o : (Nat → Int64)) (sx_o : (Nat → Int32)) (hf : fX8_layHeld w ri fm tt le hd sx v1 = some (ri_o, fm_o, tt_o, le_o, hd_o, sx_o)) : MetV l yX8_layHeld wsX8_layHeld rmX8_layHeld D (TYL cI cJ cZ cN cM) [.ref (a 0), .int v1] (mW cI cJ cZ cN cM a w kn kp sd ks bo bi bk ri fm tt le wa hd sx b1 b2) (mW cI cJ cZ cN cM a w kn kp sd ks bo bi bk ri_o fm_o tt_o le_o wa hd_o sx_o b1 b2) := by
  refine MetV.mk (cc := cX8_layHeld) (maxL := 3) (own := RX8) [(0, .ref (a 0)), (1, .int v1)] (by decide +kernel) rfl rfl (Nat.le_of_ble_eq_true rfl) rfl ?_
  intro p e s m args below meth c A Q C hret
  unfold fX8_layHeld at hf
  refine q_aload_n C 0 dX8_layHeld_0 rfl ?_
  obtain ⟨ri_1, fm_1, tt_1, le_1, hM, hf⟩ := bd4_e hf
  refine q_callVV C (mW cI cJ cZ cN cM a w kn kp sd ks bo bi bk ri_1 fm_1 tt_1 le_1 wa hd sx b1 b2) (kX8_layLetters l D cI cJ cZ cN cM a w kn kp sd ks bo bi bk ri fm tt le wa hd sx b1 b2  ri_1 fm_1 tt_1 le_1 hM) (cwV 0 C.1.2.2.2.2 gX8_layHeld_X8_layLetters rfl rfl rfl hdX8_layLetters ⟨Nat.le_of_ble_eq_true rfl, Nat.le_of_ble_eq_true rfl⟩) 0 7 rfl rfl FrX.all rfl rfl (Nat.le_of_ble_eq_true rfl) dX8_layHeld_1 ⟨Nat.zero_le _, Nat.zero_le _⟩ ?_
  refine q_iconst C 0 dX8_layHeld_4 (by decide) ?_
  refine q_istore_n C [(2, .int (0 : Int32)), (0, .ref (a 0)), (1, .int v1)] dX8_layHeld_5 (by decide) rfl ?_
  obtain ⟨hd_6, sx_6, hL, hf⟩ := bd2_e hf
  refine q_lv [(0, .ref (a 0)), (1, .int v1), (2, .int (0 : Int32))] [1, 2, 0] rfl ?_
  refine wX8_layHeld_L6 C a w kn kp sd ks bo bi bk ri_1 fm_1 tt_1 le_1 wa b1 b2 v1 hd_6 sx_6 ?_ 300 _ _ _ hL
  refine q_iconst C 0 dX8_layHeld_42 (by decide) ?_
  refine q_istore_n C [(2, .int (0 : Int32)), (0, .ref (a 0)), (1, .int v1)] dX8_layHeld_43 (by decide) rfl ?_
  obtain ⟨hd_44, sx_44, hL, hf⟩ := bd2_e hf
  refine q_lv [(0, .ref (a 0)), (1, .int v1), (2, .int (0 : Int32))] [1, 2, 0] rfl ?_
  refine wX8_layHeld_L44 C a w kn kp sd ks bo bi bk ri_1 fm_1 tt_1 le_1 wa b1 b2 v1 hd_44 sx_44 ?_ 300 _ _ _ hL
  have hy0 := Option.some.inj hf
  clear hf
  obtain ⟨hz1, hy1⟩ := Prod.mk.inj hy0
  clear hy0
  obtain ⟨hz2, hy2⟩ := Prod.mk.inj hy1
  clear hy1
  obtain ⟨hz3, hy3⟩ := Prod.mk.inj hy2
  clear hy2
  obtain ⟨hz4, hy4⟩ := Prod.mk.inj hy3
  clear hy3
  obtain ⟨hz5, hy5⟩ := Prod.mk.inj hy4
  clear hy4
  subst hz1
  subst hz2
  subst hz3
  subst hz4
  subst hz5
  subst hy5
  exact hret _ _ dX8_layHeld_118

theorem lkX8_byBits_1 : Cond.fieldLink RX8 34 "TwiceHeardModel" "held" "[J" ∈ wsX8_byBits := List.mem_of_getElem? (i := 1) rfl
theorem inX8_byBits_X8 : ∀ w ∈ wsX80, w ∈ wsX8_byBits := fun w h => List.mem_cons_of_mem _ (List.mem_append_right _ h)
abbrev rmX8_byBits : Room := { frames := 5, cells := 0, slots := 0, locals := 124 }
theorem hdX8_byBits : yX8_byBits.cls = RX8 ∧ yX8_byBits.cls ≠ "java/lang/invoke/MethodHandle" ∧ yX8_byBits.cls ≠ "java/lang/invoke/VarHandle" ∧ (parseMethodDescriptor yX8_byBits.desc).map (fun d => d.parameters.length) = some 1 := by decide +kernel
def fX8_byBits_L7 (hd : (Nat → Int64)) (v1 : Int32) : Nat → Int32 → Option (Int32)
  | 0, _ => none
  | n + 1, v2 =>
  if (8 : Int32) ≤ v2 then (
  some v2) else (
  (rdL 9 hd v1).bind fun x18 =>
  if (lg_cmp ((x18 >>> (v2.toInt64 &&& 63)) &&& (1 : Int64)) (1 : Int64)) = 0 then (
  fX8_byBits_L7 hd v1 n (v2 + 1)) else (
  some v2))
def fX8_byBits (w : (Nat → Int32)) (ri : (Nat → Int32)) (fm : (Nat → Int32)) (tt : (Nat → Int32)) (le : Int32) (hd : (Nat → Int64)) (sx : (Nat → Int32)) (v1 : Int32) : Option (Int32 × (Nat → Int32) × (Nat → Int32) × (Nat → Int32) × Int32 × (Nat → Int64) × (Nat → Int32)) :=
  bd6 (fX8_layHeld w ri fm tt le hd sx (1 : Int32)) fun ri_2 fm_2 tt_2 le_2 hd_2 sx_2 =>
  (fX8_byBits_L7 hd_2 v1 300 (0 : Int32)).bind fun v2_7 =>
  (rdL 9 hd_2 v1).bind fun x39 =>
  if (lg_cmp x39 (0 : Int64)) = 0 then (
  some ((0 : Int32), ri_2, fm_2, tt_2, le_2, hd_2, sx_2)) else (
  some (((((1 : Int32) <<< (v2_7 &&& 31)) * (1000 : Int32)) / (773 : Int32)), ri_2, fm_2, tt_2, le_2, hd_2, sx_2))
set_option maxRecDepth 100000 in
set_option maxHeartbeats 4000000 in
theorem wX8_byBits_L7 {p : Program} {l : Launch} {e : Env} {s : State} {m : MethodId} {args : Array Value} {below : List Frame} {meth : Method} {c : Code} {Q : State → Prop} {D : va_G} {A : Nat → Prop} {cI cJ cZ cN cM : ClassId} (C : Cx p s m args c cX8_byBits 3 RX8 wsX8_byBits D (TYL cI cJ cZ cN cM) A) (a : Nat → Nat) (w : (Nat → Int32)) (kn : Int32) (kp : Int32) (sd : Int32) (ks : (Nat → Int32)) (bo : (Nat → Int32)) (bi : (Nat → Int32)) (bk : Int32) (ri : (Nat → Int32)) (fm : (Nat → Int32)) (tt : (Nat → Int32)) (le : Int32) (wa : (Nat → Int32)) (hd : (Nat → Int64)) (sx : (Nat → Int32)) (b1 : (Nat → Int64)) (b2 : (Nat → Int64)) (v1 : Int32) (o2 : Int32) (kk : WW p l e rmX8_byBits s m args below meth c Q D A 3 0 0 (mW cI cJ cZ cN cM a w kn kp sd ks bo bi bk ri fm tt le wa hd sx b1 b2) [(0, .ref (a 0)), (1, .int v1), (2, .int o2)] 34 []) : ∀ (n : Nat) (v2 : Int32), fX8_byBits_L7 hd v1 n v2 = some o2 → WW p l e rmX8_byBits s m args below meth c Q D A 3 0 0 (mW cI cJ cZ cN cM a w kn kp sd ks bo bi bk ri fm tt le wa hd sx b1 b2) [(0, .ref (a 0)), (1, .int v1), (2, .int v2)] 7 [] := by
  intro n
  induction n with
  | zero =>
    intro v2 hf
    rw [fX8_byBits_L7] at hf
    cases hf
  | succ n ih =>
    intro v2 hf
    rw [fX8_byBits_L7] at hf
    refine q_iload_n C 2 dX8_byBits_7 rfl ?_
    refine q_bipush C 8 dX8_byBits_8 (by decide) ?_
    refine q_icmp_ge C 34 dX8_byBits_10 (by decide) hf (fun hf => ?_) (fun hf => ?_)
    · have hz1 := Option.some.inj hf
      clear hf
      subst hz1
      exact kk
    · refine q_aload_n C 0 dX8_byBits_13 rfl ?_
      refine q_get C 0 13 dX8_byBits_14 rfl rfl (Nat.le_of_ble_eq_true rfl) inX8_byBits_X8 lkX8_byBits_1 rfl rfl ?_
      refine q_iload_n C 1 dX8_byBits_17 rfl ?_
      refine q_lald C 9 1 dX8_byBits_18 rfl rfl hf (fun x18 hf => ?_)
      refine q_iload_n C 2 dX8_byBits_19 rfl ?_
      refine q_lshr C dX8_byBits_20 ?_
      refine q_lconst C 1 dX8_byBits_21 (by decide) ?_
      refine q_land C dX8_byBits_22 ?_
      refine q_lconst C 1 dX8_byBits_23 (by decide) ?_
      refine q_lcmp C dX8_byBits_24 ?_
      refine q_if_ne C 34 dX8_byBits_25 (by decide) hf (fun hf => ?_) (fun hf => ?_)
      · have hz1 := Option.some.inj hf
        clear hf
        subst hz1
        exact kk
      · refine q_iinc C (v2 + 1) 2 [(2, .int (v2 + 1)), (0, .ref (a 0)), (1, .int v1)] dX8_byBits_28 rfl rfl (by decide) rfl ?_
        refine q_goto C 7 dX8_byBits_31 (by decide) ?_
        refine q_lv [(0, .ref (a 0)), (1, .int v1), (2, .int (v2 + 1))] [1, 2, 0] rfl ?_
        exact ih _ hf
set_option maxRecDepth 100000 in
set_option maxHeartbeats 4000000 in
theorem kX8_byBits (l : Launch) (D : va_G) (cI cJ cZ cN cM : ClassId) (a : Nat → Nat) (w : (Nat → Int32)) (kn : Int32) (kp : Int32) (sd : Int32) (ks : (Nat → Int32)) (bo : (Nat → Int32)) (bi : (Nat → Int32)) (bk : Int32) (ri : (Nat → Int32)) (fm : (Nat → Int32)) (tt : (Nat → Int32)) (le : Int32) (wa : (Nat → Int32)) (hd : (Nat → Int64)) (sx : (Nat → Int32)) (b1 : (Nat → Int64)) (b2 : (Nat → Int64)) (v1 : Int32) (r : Int32) (ri_o : (Nat → Int32)) (fm_o : (Nat → Int32)) (tt_o : (Nat → Int32)) (le_o : Int32) (hd_o : (Nat → Int64)) (sx_o : (Nat → Int32)) (hf : fX8_byBits w ri fm tt le hd sx v1 = some (r, ri_o, fm_o, tt_o, le_o, hd_o, sx_o)) : MetI l yX8_byBits wsX8_byBits rmX8_byBits D (TYL cI cJ cZ cN cM) [.ref (a 0), .int v1] (mW cI cJ cZ cN cM a w kn kp sd ks bo bi bk ri fm tt le wa hd sx b1 b2) (mW cI cJ cZ cN cM a w kn kp sd ks bo bi bk ri_o fm_o tt_o le_o wa hd_o sx_o b1 b2) r := by
  refine MetI.mk (cc := cX8_byBits) (maxL := 3) (own := RX8) (ty := .int) [(0, .ref (a 0)), (1, .int v1)] (by decide +kernel) rfl rfl (Nat.le_of_ble_eq_true rfl) rfl ?_
  intro p e s m args below meth c A Q C hret
  unfold fX8_byBits at hf
  refine q_aload_n C 0 dX8_byBits_0 rfl ?_
  refine q_iconst C 1 dX8_byBits_1 (by decide) ?_
  obtain ⟨ri_2, fm_2, tt_2, le_2, hd_2, sx_2, hM, hf⟩ := bd6_e hf
  refine q_callVV C (mW cI cJ cZ cN cM a w kn kp sd ks bo bi bk ri_2 fm_2 tt_2 le_2 wa hd_2 sx_2 b1 b2) (kX8_layHeld l D cI cJ cZ cN cM a w kn kp sd ks bo bi bk ri fm tt le wa hd sx b1 b2 (1 : Int32) ri_2 fm_2 tt_2 le_2 hd_2 sx_2 hM) (cwV 1 C.1.2.2.2.2 gX8_byBits_X8_layHeld rfl rfl rfl hdX8_layHeld ⟨Nat.le_of_ble_eq_true rfl, Nat.le_of_ble_eq_true rfl⟩) 0 7 rfl rfl FrX.all rfl rfl (Nat.le_of_ble_eq_true rfl) dX8_byBits_2 ⟨Nat.zero_le _, Nat.zero_le _⟩ ?_
  refine q_iconst C 0 dX8_byBits_5 (by decide) ?_
  refine q_istore_n C [(2, .int (0 : Int32)), (0, .ref (a 0)), (1, .int v1)] dX8_byBits_6 (by decide) rfl ?_
  obtain ⟨v2_7, hL, hf⟩ := bd_e hf
  refine q_lv [(0, .ref (a 0)), (1, .int v1), (2, .int (0 : Int32))] [1, 2, 0] rfl ?_
  refine wX8_byBits_L7 C a w kn kp sd ks bo bi bk ri_2 fm_2 tt_2 le_2 wa hd_2 sx_2 b1 b2 v1 v2_7 ?_ 300 _ hL
  refine q_aload_n C 0 dX8_byBits_34 rfl ?_
  refine q_get C 0 13 dX8_byBits_35 rfl rfl (Nat.le_of_ble_eq_true rfl) inX8_byBits_X8 lkX8_byBits_1 rfl rfl ?_
  refine q_iload_n C 1 dX8_byBits_38 rfl ?_
  refine q_lald C 9 1 dX8_byBits_39 rfl rfl hf (fun x39 hf => ?_)
  refine q_lconst C 0 dX8_byBits_40 (by decide) ?_
  refine q_lcmp C dX8_byBits_41 ?_
  refine q_if_ne C 49 dX8_byBits_42 (by decide) hf (fun hf => ?_) (fun hf => ?_)
  · refine q_iconst C 1 dX8_byBits_49 (by decide) ?_
    refine q_iload_n C 2 dX8_byBits_50 rfl ?_
    refine q_ishl C dX8_byBits_51 ?_
    refine q_sipush C 1000 dX8_byBits_52 (by decide) ?_
    refine q_imul C dX8_byBits_55 ?_
    refine q_sipush C 773 dX8_byBits_56 (by decide) ?_
    refine q_idivC C dX8_byBits_59 (by decide) ?_
    have hy0 := Option.some.inj hf
    clear hf
    obtain ⟨hz1, hy1⟩ := Prod.mk.inj hy0
    clear hy0
    obtain ⟨hz2, hy2⟩ := Prod.mk.inj hy1
    clear hy1
    obtain ⟨hz3, hy3⟩ := Prod.mk.inj hy2
    clear hy2
    obtain ⟨hz4, hy4⟩ := Prod.mk.inj hy3
    clear hy3
    obtain ⟨hz5, hy5⟩ := Prod.mk.inj hy4
    clear hy4
    obtain ⟨hz6, hy6⟩ := Prod.mk.inj hy5
    clear hy5
    subst hz1
    subst hz2
    subst hz3
    subst hz4
    subst hz5
    subst hz6
    subst hy6
    exact hret _ _ dX8_byBits_60 rfl
  · refine q_iconst C 0 dX8_byBits_45 (by decide) ?_
    refine q_goto C 60 dX8_byBits_46 (by decide) ?_
    have hy0 := Option.some.inj hf
    clear hf
    obtain ⟨hz1, hy1⟩ := Prod.mk.inj hy0
    clear hy0
    obtain ⟨hz2, hy2⟩ := Prod.mk.inj hy1
    clear hy1
    obtain ⟨hz3, hy3⟩ := Prod.mk.inj hy2
    clear hy2
    obtain ⟨hz4, hy4⟩ := Prod.mk.inj hy3
    clear hy3
    obtain ⟨hz5, hy5⟩ := Prod.mk.inj hy4
    clear hy4
    obtain ⟨hz6, hy6⟩ := Prod.mk.inj hy5
    clear hy5
    subst hz1
    subst hz2
    subst hz3
    subst hz4
    subst hz5
    subst hz6
    subst hy6
    exact hret _ _ dX8_byBits_60 rfl

theorem lkX8_byLeast_1 : Cond.fieldLink RX8 34 "TwiceHeardModel" "held" "[J" ∈ wsX8_byLeast := List.mem_of_getElem? (i := 1) rfl
theorem lkX8_byLeast_2 : Cond.fieldLink RX8 38 "TwiceHeardModel" "six" "[I" ∈ wsX8_byLeast := List.mem_of_getElem? (i := 2) rfl
theorem inX8_byLeast_X8 : ∀ w ∈ wsX80, w ∈ wsX8_byLeast := fun w h => List.mem_cons_of_mem _ (List.mem_append_right _ h)
abbrev rmX8_byLeast : Room := { frames := 5, cells := 0, slots := 0, locals := 124 }
theorem hdX8_byLeast : yX8_byLeast.cls = RX8 ∧ yX8_byLeast.cls ≠ "java/lang/invoke/MethodHandle" ∧ yX8_byLeast.cls ≠ "java/lang/invoke/VarHandle" ∧ (parseMethodDescriptor yX8_byLeast.desc).map (fun d => d.parameters.length) = some 1 := by decide +kernel
def fX8_byLeast (w : (Nat → Int32)) (ri : (Nat → Int32)) (fm : (Nat → Int32)) (tt : (Nat → Int32)) (le : Int32) (hd : (Nat → Int64)) (sx : (Nat → Int32)) (v1 : Int32) : Option (Int32 × (Nat → Int32) × (Nat → Int32) × (Nat → Int32) × Int32 × (Nat → Int64) × (Nat → Int32)) :=
  bd6 (fX8_layHeld w ri fm tt le hd sx (2 : Int32)) fun ri_2 fm_2 tt_2 le_2 hd_2 sx_2 =>
  (rdL 9 hd_2 v1).bind fun x11 =>
  (fX8_unpack sx_2 x11 (0 : Int32)).bind fun sx_13 =>
  jn1 (fun (t0_33 : Int32) => 
  jn1 (fun (t0_50 : Int32) => 
  jn1 (fun (t0_68 : Int32) => 
  if (3 : Int32) ≤ ((t0_33 + t0_50) + t0_68) then (
  (dvI (2048 : Int32) ((sx_13 2) + (1 : Int32))).bind fun x90 =>
  some (x90, ri_2, fm_2, tt_2, le_2, hd_2, sx_13)) else (
  some (((t0_33 + t0_50) + t0_68), ri_2, fm_2, tt_2, le_2, hd_2, sx_13))) fun k68 =>
  if (1024 : Int32) ≤ (sx_13 2) then (
  k68 (0 : Int32)) else (
  k68 (1 : Int32))) fun k50 =>
  if (1024 : Int32) ≤ (sx_13 1) then (
  k50 (0 : Int32)) else (
  k50 (1 : Int32))) fun k33 =>
  if (1024 : Int32) ≤ (sx_13 0) then (
  k33 (0 : Int32)) else (
  k33 (1 : Int32))
set_option maxRecDepth 100000 in
set_option maxHeartbeats 4000000 in
theorem kX8_byLeast (l : Launch) (D : va_G) (cI cJ cZ cN cM : ClassId) (a : Nat → Nat) (w : (Nat → Int32)) (kn : Int32) (kp : Int32) (sd : Int32) (ks : (Nat → Int32)) (bo : (Nat → Int32)) (bi : (Nat → Int32)) (bk : Int32) (ri : (Nat → Int32)) (fm : (Nat → Int32)) (tt : (Nat → Int32)) (le : Int32) (wa : (Nat → Int32)) (hd : (Nat → Int64)) (sx : (Nat → Int32)) (b1 : (Nat → Int64)) (b2 : (Nat → Int64)) (v1 : Int32) (r : Int32) (ri_o : (Nat → Int32)) (fm_o : (Nat → Int32)) (tt_o : (Nat → Int32)) (le_o : Int32) (hd_o : (Nat → Int64)) (sx_o : (Nat → Int32)) (hf : fX8_byLeast w ri fm tt le hd sx v1 = some (r, ri_o, fm_o, tt_o, le_o, hd_o, sx_o)) : MetI l yX8_byLeast wsX8_byLeast rmX8_byLeast D (TYL cI cJ cZ cN cM) [.ref (a 0), .int v1] (mW cI cJ cZ cN cM a w kn kp sd ks bo bi bk ri fm tt le wa hd sx b1 b2) (mW cI cJ cZ cN cM a w kn kp sd ks bo bi bk ri_o fm_o tt_o le_o wa hd_o sx_o b1 b2) r := by
  refine MetI.mk (cc := cX8_byLeast) (maxL := 3) (own := RX8) (ty := .int) [(0, .ref (a 0)), (1, .int v1)] (by decide +kernel) rfl rfl (Nat.le_of_ble_eq_true rfl) rfl ?_
  intro p e s m args below meth c A Q C hret
  unfold fX8_byLeast at hf
  refine q_aload_n C 0 dX8_byLeast_0 rfl ?_
  refine q_iconst C 2 dX8_byLeast_1 (by decide) ?_
  obtain ⟨ri_2, fm_2, tt_2, le_2, hd_2, sx_2, hM, hf⟩ := bd6_e hf
  refine q_callVV C (mW cI cJ cZ cN cM a w kn kp sd ks bo bi bk ri_2 fm_2 tt_2 le_2 wa hd_2 sx_2 b1 b2) (kX8_layHeld l D cI cJ cZ cN cM a w kn kp sd ks bo bi bk ri fm tt le wa hd sx b1 b2 (2 : Int32) ri_2 fm_2 tt_2 le_2 hd_2 sx_2 hM) (cwV 1 C.1.2.2.2.2 gX8_byLeast_X8_layHeld rfl rfl rfl hdX8_layHeld ⟨Nat.le_of_ble_eq_true rfl, Nat.le_of_ble_eq_true rfl⟩) 0 7 rfl rfl FrX.all rfl rfl (Nat.le_of_ble_eq_true rfl) dX8_byLeast_2 ⟨Nat.zero_le _, Nat.zero_le _⟩ ?_
  refine q_aload_n C 0 dX8_byLeast_5 rfl ?_
  refine q_aload_n C 0 dX8_byLeast_6 rfl ?_
  refine q_get C 0 13 dX8_byLeast_7 rfl rfl (Nat.le_of_ble_eq_true rfl) inX8_byLeast_X8 lkX8_byLeast_1 rfl rfl ?_
  refine q_iload_n C 1 dX8_byLeast_10 rfl ?_
  refine q_lald C 9 1 dX8_byLeast_11 rfl rfl hf (fun x11 hf => ?_)
  refine q_iconst C 0 dX8_byLeast_12 (by decide) ?_
  obtain ⟨sx_13, hM, hf⟩ := bd_e hf
  refine q_callVV C (mW cI cJ cZ cN cM a w kn kp sd ks bo bi bk ri_2 fm_2 tt_2 le_2 wa hd_2 sx_13 b1 b2) (kX8_unpack l D cI cJ cZ cN cM a w kn kp sd ks bo bi bk ri_2 fm_2 tt_2 le_2 wa hd_2 sx_2 b1 b2 x11 (0 : Int32) sx_13 hM) (cwV 2 C.1.2.2.2.2 gX8_byLeast_X8_unpack rfl rfl rfl hdX8_unpack ⟨Nat.le_of_ble_eq_true rfl, Nat.le_of_ble_eq_true rfl⟩) 0 7 rfl rfl FrX.all rfl rfl (Nat.le_of_ble_eq_true rfl) dX8_byLeast_13 ⟨Nat.zero_le _, Nat.zero_le _⟩ ?_
  refine q_aload_n C 0 dX8_byLeast_16 rfl ?_
  refine q_get C 0 14 dX8_byLeast_17 rfl rfl (Nat.le_of_ble_eq_true rfl) inX8_byLeast_X8 lkX8_byLeast_2 rfl rfl ?_
  refine q_iconst C 0 dX8_byLeast_20 (by decide) ?_
  refine q_ialdC C 10 0 dX8_byLeast_21 rfl rfl (by unfold vp_in; decide) (x := (sx_13 0)) rfl ?_
  refine q_sipush C 1024 dX8_byLeast_22 (by decide) ?_
  refine jn1_e (fun (t0_33 : Int32) => WW p l e rmX8_byLeast s m args below meth c Q D A 3 0 0 (mW cI cJ cZ cN cM a w kn kp sd ks bo bi bk ri_2 fm_2 tt_2 le_2 wa hd_2 sx_13 b1 b2) [(0, .ref (a 0))] 33 [.int t0_33]) hf ?_ ?_
  · intro t0_33 hf
    refine q_aload_n C 0 dX8_byLeast_33 rfl ?_
    refine q_get C 0 14 dX8_byLeast_34 rfl rfl (Nat.le_of_ble_eq_true rfl) inX8_byLeast_X8 lkX8_byLeast_2 rfl rfl ?_
    refine q_iconst C 1 dX8_byLeast_37 (by decide) ?_
    refine q_ialdC C 10 0 dX8_byLeast_38 rfl rfl (by unfold vp_in; decide) (x := (sx_13 1)) rfl ?_
    refine q_sipush C 1024 dX8_byLeast_39 (by decide) ?_
    refine jn1_e (fun (t0_50 : Int32) => WW p l e rmX8_byLeast s m args below meth c Q D A 3 0 0 (mW cI cJ cZ cN cM a w kn kp sd ks bo bi bk ri_2 fm_2 tt_2 le_2 wa hd_2 sx_13 b1 b2) [(0, .ref (a 0))] 50 [.int t0_50, .int t0_33]) hf ?_ ?_
    · intro t0_50 hf
      refine q_iadd C dX8_byLeast_50 ?_
      refine q_aload_n C 0 dX8_byLeast_51 rfl ?_
      refine q_get C 0 14 dX8_byLeast_52 rfl rfl (Nat.le_of_ble_eq_true rfl) inX8_byLeast_X8 lkX8_byLeast_2 rfl rfl ?_
      refine q_iconst C 2 dX8_byLeast_55 (by decide) ?_
      refine q_ialdC C 10 0 dX8_byLeast_56 rfl rfl (by unfold vp_in; decide) (x := (sx_13 2)) rfl ?_
      refine q_sipush C 1024 dX8_byLeast_57 (by decide) ?_
      refine jn1_e (fun (t0_68 : Int32) => WW p l e rmX8_byLeast s m args below meth c Q D A 3 0 0 (mW cI cJ cZ cN cM a w kn kp sd ks bo bi bk ri_2 fm_2 tt_2 le_2 wa hd_2 sx_13 b1 b2) [(0, .ref (a 0))] 68 [.int t0_68, .int (t0_33 + t0_50)]) hf ?_ ?_
      · intro t0_68 hf
        refine q_iadd C dX8_byLeast_68 ?_
        refine q_istore_n C [(2, .int ((t0_33 + t0_50) + t0_68)), (0, .ref (a 0))] dX8_byLeast_69 (by decide) rfl ?_
        refine q_iload_n C 0 dX8_byLeast_70 rfl ?_
        refine q_iconst C 3 dX8_byLeast_71 (by decide) ?_
        refine q_icmp_ge C 79 dX8_byLeast_72 (by decide) hf (fun hf => ?_) (fun hf => ?_)
        · refine q_sipush C 2048 dX8_byLeast_79 (by decide) ?_
          refine q_aload_n C 1 dX8_byLeast_82 rfl ?_
          refine q_get C 0 14 dX8_byLeast_83 rfl rfl (Nat.le_of_ble_eq_true rfl) inX8_byLeast_X8 lkX8_byLeast_2 rfl rfl ?_
          refine q_iconst C 2 dX8_byLeast_86 (by decide) ?_
          refine q_ialdC C 10 0 dX8_byLeast_87 rfl rfl (by unfold vp_in; decide) (x := (sx_13 2)) rfl ?_
          refine q_iconst C 1 dX8_byLeast_88 (by decide) ?_
          refine q_iadd C dX8_byLeast_89 ?_
          refine q_idiv C dX8_byLeast_90 hf (fun x90 hf => ?_)
          have hy0 := Option.some.inj hf
          clear hf
          obtain ⟨hz1, hy1⟩ := Prod.mk.inj hy0
          clear hy0
          obtain ⟨hz2, hy2⟩ := Prod.mk.inj hy1
          clear hy1
          obtain ⟨hz3, hy3⟩ := Prod.mk.inj hy2
          clear hy2
          obtain ⟨hz4, hy4⟩ := Prod.mk.inj hy3
          clear hy3
          obtain ⟨hz5, hy5⟩ := Prod.mk.inj hy4
          clear hy4
          obtain ⟨hz6, hy6⟩ := Prod.mk.inj hy5
          clear hy5
          subst hz1
          subst hz2
          subst hz3
          subst hz4
          subst hz5
          subst hz6
          subst hy6
          exact hret _ _ dX8_byLeast_91 rfl
        · refine q_iload_n C 0 dX8_byLeast_75 rfl ?_
          refine q_goto C 91 dX8_byLeast_76 (by decide) ?_
          have hy0 := Option.some.inj hf
          clear hf
          obtain ⟨hz1, hy1⟩ := Prod.mk.inj hy0
          clear hy0
          obtain ⟨hz2, hy2⟩ := Prod.mk.inj hy1
          clear hy1
          obtain ⟨hz3, hy3⟩ := Prod.mk.inj hy2
          clear hy2
          obtain ⟨hz4, hy4⟩ := Prod.mk.inj hy3
          clear hy3
          obtain ⟨hz5, hy5⟩ := Prod.mk.inj hy4
          clear hy4
          obtain ⟨hz6, hy6⟩ := Prod.mk.inj hy5
          clear hy5
          subst hz1
          subst hz2
          subst hz3
          subst hz4
          subst hz5
          subst hz6
          subst hy6
          exact hret _ _ dX8_byLeast_91 rfl
      intro k68 J68 hf
      refine q_icmp_ge C 67 dX8_byLeast_60 (by decide) hf (fun hf => ?_) (fun hf => ?_)
      · refine q_iconst C 0 dX8_byLeast_67 (by decide) ?_
        exact J68 _ hf
      · refine q_iconst C 1 dX8_byLeast_63 (by decide) ?_
        refine q_goto C 68 dX8_byLeast_64 (by decide) ?_
        exact J68 _ hf
    intro k50 J50 hf
    refine q_icmp_ge C 49 dX8_byLeast_42 (by decide) hf (fun hf => ?_) (fun hf => ?_)
    · refine q_iconst C 0 dX8_byLeast_49 (by decide) ?_
      exact J50 _ hf
    · refine q_iconst C 1 dX8_byLeast_45 (by decide) ?_
      refine q_goto C 50 dX8_byLeast_46 (by decide) ?_
      exact J50 _ hf
  intro k33 J33 hf
  refine q_icmp_ge C 32 dX8_byLeast_25 (by decide) hf (fun hf => ?_) (fun hf => ?_)
  · refine q_iconst C 0 dX8_byLeast_32 (by decide) ?_
    refine q_lv [(0, .ref (a 0))] [0] rfl ?_
    exact J33 _ hf
  · refine q_iconst C 1 dX8_byLeast_28 (by decide) ?_
    refine q_goto C 33 dX8_byLeast_29 (by decide) ?_
    refine q_lv [(0, .ref (a 0))] [0] rfl ?_
    exact J33 _ hf

theorem lkX8_truth_1 : Cond.fieldLink RX8 9 "TwiceHeardModel" "w" "[I" ∈ wsX8_truth := List.mem_of_getElem? (i := 1) rfl
theorem lkX8_truth_2 : Cond.fieldLink RX8 22 "TwiceHeardModel" "ring" "[I" ∈ wsX8_truth := List.mem_of_getElem? (i := 2) rfl
theorem inX8_truth_X8 : ∀ w ∈ wsX80, w ∈ wsX8_truth := fun w h => List.mem_cons_of_mem _ (List.mem_append_right _ h)
abbrev rmX8_truth : Room := { frames := 3, cells := 0, slots := 0, locals := 66 }
theorem hdX8_truth : yX8_truth.cls = RX8 ∧ yX8_truth.cls ≠ "java/lang/invoke/MethodHandle" ∧ yX8_truth.cls ≠ "java/lang/invoke/VarHandle" ∧ (parseMethodDescriptor yX8_truth.desc).map (fun d => d.parameters.length) = some 0 := by decide +kernel
def fX8_truth_L8 (w : (Nat → Int32)) (ri : (Nat → Int32)) : Nat → Int32 → Int32 → Option (Int32)
  | 0, _, _ => none
  | n + 1, v1, v2 =>
  if (w 0) ≤ v2 then (
  some v1) else (
  (rdI 9 ri v2).bind fun x24 =>
  jn1 (fun (t0_42 : Int32) => 
  fX8_truth_L8 w ri n (v1 ||| t0_42) (v2 + 1)) fun k42 =>
  if x24 = (-1 : Int32) then (
  k42 (0 : Int32)) else (
  (rdI 570 w ((21 : Int32) + v2)).bind fun x41 =>
  k42 x41))
def fX8_truth (w : (Nat → Int32)) (ri : (Nat → Int32))  : Option (Int32 × (Nat → Int32)) :=
  (fX8_layRings w ri).bind fun ri_1 =>
  (fX8_truth_L8 w ri_1 300 (0 : Int32) (0 : Int32)).bind fun v1_8 =>
  (fX8_ones v1_8).bind fun x51 =>
  some (x51, ri_1)
set_option maxRecDepth 100000 in
set_option maxHeartbeats 4000000 in
theorem wX8_truth_L8 {p : Program} {l : Launch} {e : Env} {s : State} {m : MethodId} {args : Array Value} {below : List Frame} {meth : Method} {c : Code} {Q : State → Prop} {D : va_G} {A : Nat → Prop} {cI cJ cZ cN cM : ClassId} (C : Cx p s m args c cX8_truth 3 RX8 wsX8_truth D (TYL cI cJ cZ cN cM) A) (a : Nat → Nat) (w : (Nat → Int32)) (kn : Int32) (kp : Int32) (sd : Int32) (ks : (Nat → Int32)) (bo : (Nat → Int32)) (bi : (Nat → Int32)) (bk : Int32) (ri : (Nat → Int32)) (fm : (Nat → Int32)) (tt : (Nat → Int32)) (le : Int32) (wa : (Nat → Int32)) (hd : (Nat → Int64)) (sx : (Nat → Int32)) (b1 : (Nat → Int64)) (b2 : (Nat → Int64))  (o1 : Int32) (kk : WW p l e rmX8_truth s m args below meth c Q D A 3 0 0 (mW cI cJ cZ cN cM a w kn kp sd ks bo bi bk ri fm tt le wa hd sx b1 b2) [(1, .int o1)] 50 []) : ∀ (n : Nat) (v1 : Int32) (v2 : Int32), fX8_truth_L8 w ri n v1 v2 = some o1 → WW p l e rmX8_truth s m args below meth c Q D A 3 0 0 (mW cI cJ cZ cN cM a w kn kp sd ks bo bi bk ri fm tt le wa hd sx b1 b2) [(0, .ref (a 0)), (1, .int v1), (2, .int v2)] 8 [] := by
  intro n
  induction n with
  | zero =>
    intro v1 v2 hf
    rw [fX8_truth_L8] at hf
    cases hf
  | succ n ih =>
    intro v1 v2 hf
    rw [fX8_truth_L8] at hf
    refine q_iload_n C 2 dX8_truth_8 rfl ?_
    refine q_aload_n C 0 dX8_truth_9 rfl ?_
    refine q_get C 0 0 dX8_truth_10 rfl rfl (Nat.le_of_ble_eq_true rfl) inX8_truth_X8 lkX8_truth_1 rfl rfl ?_
    refine q_iconst C 0 dX8_truth_13 (by decide) ?_
    refine q_ialdC C 1 0 dX8_truth_14 rfl rfl (by unfold vp_in; decide) (x := (w 0)) rfl ?_
    refine q_icmp_ge C 50 dX8_truth_15 (by decide) hf (fun hf => ?_) (fun hf => ?_)
    · refine q_lv [(1, .int v1)] [1] rfl ?_
      have hz1 := Option.some.inj hf
      clear hf
      subst hz1
      exact kk
    · refine q_iload_n C 1 dX8_truth_18 rfl ?_
      refine q_aload_n C 0 dX8_truth_19 rfl ?_
      refine q_get C 0 8 dX8_truth_20 rfl rfl (Nat.le_of_ble_eq_true rfl) inX8_truth_X8 lkX8_truth_2 rfl rfl ?_
      refine q_iload_n C 2 dX8_truth_23 rfl ?_
      refine q_iald C 5 0 dX8_truth_24 rfl rfl hf (fun x24 hf => ?_)
      refine q_iconst C (-1) dX8_truth_25 (by decide) ?_
      refine jn1_e (fun (t0_42 : Int32) => WW p l e rmX8_truth s m args below meth c Q D A 3 0 0 (mW cI cJ cZ cN cM a w kn kp sd ks bo bi bk ri fm tt le wa hd sx b1 b2) [(0, .ref (a 0)), (2, .int v2)] 42 [.int t0_42, .int v1]) hf ?_ ?_
      · intro t0_42 hf
        refine q_ior C dX8_truth_42 ?_
        refine q_istore_n C [(1, .int (v1 ||| t0_42)), (0, .ref (a 0)), (2, .int v2)] dX8_truth_43 (by decide) rfl ?_
        refine q_iinc C (v2 + 1) 2 [(2, .int (v2 + 1)), (1, .int (v1 ||| t0_42)), (0, .ref (a 0))] dX8_truth_44 rfl rfl (by decide) rfl ?_
        refine q_goto C 8 dX8_truth_47 (by decide) ?_
        refine q_lv [(0, .ref (a 0)), (1, .int (v1 ||| t0_42)), (2, .int (v2 + 1))] [2, 1, 0] rfl ?_
        exact ih _ _ hf
      intro k42 J42 hf
      refine q_icmp_ne C 33 dX8_truth_26 (by decide) hf (fun hf => ?_) (fun hf => ?_)
      · refine q_aload_n C 0 dX8_truth_33 rfl ?_
        refine q_get C 0 0 dX8_truth_34 rfl rfl (Nat.le_of_ble_eq_true rfl) inX8_truth_X8 lkX8_truth_1 rfl rfl ?_
        refine q_bipush C 21 dX8_truth_37 (by decide) ?_
        refine q_iload_n C 2 dX8_truth_39 rfl ?_
        refine q_iadd C dX8_truth_40 ?_
        refine q_iald C 1 0 dX8_truth_41 rfl rfl hf (fun x41 hf => ?_)
        refine q_lv [(0, .ref (a 0)), (2, .int v2)] [0, 2] rfl ?_
        exact J42 _ hf
      · refine q_iconst C 0 dX8_truth_29 (by decide) ?_
        refine q_goto C 42 dX8_truth_30 (by decide) ?_
        refine q_lv [(0, .ref (a 0)), (2, .int v2)] [0, 2] rfl ?_
        exact J42 _ hf
set_option maxRecDepth 100000 in
set_option maxHeartbeats 4000000 in
theorem kX8_truth (l : Launch) (D : va_G) (cI cJ cZ cN cM : ClassId) (a : Nat → Nat) (w : (Nat → Int32)) (kn : Int32) (kp : Int32) (sd : Int32) (ks : (Nat → Int32)) (bo : (Nat → Int32)) (bi : (Nat → Int32)) (bk : Int32) (ri : (Nat → Int32)) (fm : (Nat → Int32)) (tt : (Nat → Int32)) (le : Int32) (wa : (Nat → Int32)) (hd : (Nat → Int64)) (sx : (Nat → Int32)) (b1 : (Nat → Int64)) (b2 : (Nat → Int64))  (r : Int32) (ri_o : (Nat → Int32)) (hf : fX8_truth w ri = some (r, ri_o)) : MetI l yX8_truth wsX8_truth rmX8_truth D (TYL cI cJ cZ cN cM) [.ref (a 0)] (mW cI cJ cZ cN cM a w kn kp sd ks bo bi bk ri fm tt le wa hd sx b1 b2) (mW cI cJ cZ cN cM a w kn kp sd ks bo bi bk ri_o fm tt le wa hd sx b1 b2) r := by
  refine MetI.mk (cc := cX8_truth) (maxL := 3) (own := RX8) (ty := .int) [(0, .ref (a 0))] (by decide +kernel) rfl rfl (Nat.le_of_ble_eq_true rfl) rfl ?_
  intro p e s m args below meth c A Q C hret
  unfold fX8_truth at hf
  refine q_aload_n C 0 dX8_truth_0 rfl ?_
  obtain ⟨ri_1, hM, hf⟩ := bd_e hf
  refine q_callVV C (mW cI cJ cZ cN cM a w kn kp sd ks bo bi bk ri_1 fm tt le wa hd sx b1 b2) (kX8_layRings l D cI cJ cZ cN cM a w kn kp sd ks bo bi bk ri fm tt le wa hd sx b1 b2  ri_1 hM) (cwV 0 C.1.2.2.2.2 gX8_truth_X8_layRings rfl rfl rfl hdX8_layRings ⟨Nat.le_of_ble_eq_true rfl, Nat.le_of_ble_eq_true rfl⟩) 0 7 rfl rfl FrX.all rfl rfl (Nat.le_of_ble_eq_true rfl) dX8_truth_1 ⟨Nat.zero_le _, Nat.zero_le _⟩ ?_
  refine q_iconst C 0 dX8_truth_4 (by decide) ?_
  refine q_istore_n C [(1, .int (0 : Int32)), (0, .ref (a 0))] dX8_truth_5 (by decide) rfl ?_
  refine q_iconst C 0 dX8_truth_6 (by decide) ?_
  refine q_istore_n C [(2, .int (0 : Int32)), (1, .int (0 : Int32)), (0, .ref (a 0))] dX8_truth_7 (by decide) rfl ?_
  obtain ⟨v1_8, hL, hf⟩ := bd_e hf
  refine q_lv [(0, .ref (a 0)), (1, .int (0 : Int32)), (2, .int (0 : Int32))] [2, 1, 0] rfl ?_
  refine wX8_truth_L8 C a w kn kp sd ks bo bi bk ri_1 fm tt le wa hd sx b1 b2  v1_8 ?_ 300 _ _ hL
  refine q_iload_n C 0 dX8_truth_50 rfl ?_
  obtain ⟨x51, hM, hf⟩ := bd_e hf
  refine q_callSI C (mW cI cJ cZ cN cM a w kn kp sd ks bo bi bk ri_1 fm tt le wa hd sx b1 b2) (kX8_ones l D cI cJ cZ cN cM   v1_8 x51 hM) (va_cwS 1 C.1.2.2.2.2 gX8_truth_X8_ones rfl rfl rfl hdX8_ones ⟨Nat.le_of_ble_eq_true rfl, Nat.le_of_ble_eq_true rfl⟩) FrX.none rfl rfl (Nat.le_of_ble_eq_true rfl) dX8_truth_51 ⟨Nat.zero_le _, Nat.zero_le _⟩ ?_
  have hy0 := Option.some.inj hf
  clear hf
  obtain ⟨hz1, hy1⟩ := Prod.mk.inj hy0
  clear hy0
  subst hz1
  subst hy1
  exact hret _ _ dX8_truth_54 rfl

theorem lkX8_links_1 : Cond.fieldLink RX8 9 "TwiceHeardModel" "w" "[I" ∈ wsX8_links := List.mem_of_getElem? (i := 1) rfl
theorem inX8_links_X8 : ∀ w ∈ wsX80, w ∈ wsX8_links := fun w h => List.mem_cons_of_mem _ (List.mem_append_right _ h)
abbrev rmX8_links : Room := { frames := 2, cells := 0, slots := 0, locals := 43 }
theorem hdX8_links : yX8_links.cls = RX8 ∧ yX8_links.cls ≠ "java/lang/invoke/MethodHandle" ∧ yX8_links.cls ≠ "java/lang/invoke/VarHandle" ∧ (parseMethodDescriptor yX8_links.desc).map (fun d => d.parameters.length) = some 0 := by decide +kernel
def fX8_links_L4 (w : (Nat → Int32)) : Nat → Int32 → Int32 → Option (Int32)
  | 0, _, _ => none
  | n + 1, v1, v2 =>
  if (w 0) ≤ v2 then (
  some v1) else (
  (rdI 570 w ((3 : Int32) + v2)).bind fun x22 =>
  (fX8_ones x22).bind fun x23 =>
  fX8_links_L4 w n (v1 + x23) (v2 + 1))
def fX8_links (w : (Nat → Int32))  : Option (Int32) :=
  (fX8_links_L4 w 300 (0 : Int32) (0 : Int32)).bind fun v1_4 =>
  some (v1_4 / (2 : Int32))
set_option maxRecDepth 100000 in
set_option maxHeartbeats 4000000 in
theorem wX8_links_L4 {p : Program} {l : Launch} {e : Env} {s : State} {m : MethodId} {args : Array Value} {below : List Frame} {meth : Method} {c : Code} {Q : State → Prop} {D : va_G} {A : Nat → Prop} {cI cJ cZ cN cM : ClassId} (C : Cx p s m args c cX8_links 3 RX8 wsX8_links D (TYL cI cJ cZ cN cM) A) (a : Nat → Nat) (w : (Nat → Int32)) (kn : Int32) (kp : Int32) (sd : Int32) (ks : (Nat → Int32)) (bo : (Nat → Int32)) (bi : (Nat → Int32)) (bk : Int32) (ri : (Nat → Int32)) (fm : (Nat → Int32)) (tt : (Nat → Int32)) (le : Int32) (wa : (Nat → Int32)) (hd : (Nat → Int64)) (sx : (Nat → Int32)) (b1 : (Nat → Int64)) (b2 : (Nat → Int64))  (o1 : Int32) (kk : WW p l e rmX8_links s m args below meth c Q D A 3 0 0 (mW cI cJ cZ cN cM a w kn kp sd ks bo bi bk ri fm tt le wa hd sx b1 b2) [(1, .int o1)] 34 []) : ∀ (n : Nat) (v1 : Int32) (v2 : Int32), fX8_links_L4 w n v1 v2 = some o1 → WW p l e rmX8_links s m args below meth c Q D A 3 0 0 (mW cI cJ cZ cN cM a w kn kp sd ks bo bi bk ri fm tt le wa hd sx b1 b2) [(0, .ref (a 0)), (1, .int v1), (2, .int v2)] 4 [] := by
  intro n
  induction n with
  | zero =>
    intro v1 v2 hf
    rw [fX8_links_L4] at hf
    cases hf
  | succ n ih =>
    intro v1 v2 hf
    rw [fX8_links_L4] at hf
    refine q_iload_n C 2 dX8_links_4 rfl ?_
    refine q_aload_n C 0 dX8_links_5 rfl ?_
    refine q_get C 0 0 dX8_links_6 rfl rfl (Nat.le_of_ble_eq_true rfl) inX8_links_X8 lkX8_links_1 rfl rfl ?_
    refine q_iconst C 0 dX8_links_9 (by decide) ?_
    refine q_ialdC C 1 0 dX8_links_10 rfl rfl (by unfold vp_in; decide) (x := (w 0)) rfl ?_
    refine q_icmp_ge C 34 dX8_links_11 (by decide) hf (fun hf => ?_) (fun hf => ?_)
    · refine q_lv [(1, .int v1)] [1] rfl ?_
      have hz1 := Option.some.inj hf
      clear hf
      subst hz1
      exact kk
    · refine q_iload_n C 1 dX8_links_14 rfl ?_
      refine q_aload_n C 0 dX8_links_15 rfl ?_
      refine q_get C 0 0 dX8_links_16 rfl rfl (Nat.le_of_ble_eq_true rfl) inX8_links_X8 lkX8_links_1 rfl rfl ?_
      refine q_iconst C 3 dX8_links_19 (by decide) ?_
      refine q_iload_n C 2 dX8_links_20 rfl ?_
      refine q_iadd C dX8_links_21 ?_
      refine q_iald C 1 0 dX8_links_22 rfl rfl hf (fun x22 hf => ?_)
      obtain ⟨x23, hM, hf⟩ := bd_e hf
      refine q_callSI C (mW cI cJ cZ cN cM a w kn kp sd ks bo bi bk ri fm tt le wa hd sx b1 b2) (kX8_ones l D cI cJ cZ cN cM   x22 x23 hM) (va_cwS 1 C.1.2.2.2.2 gX8_links_X8_ones rfl rfl rfl hdX8_ones ⟨Nat.le_of_ble_eq_true rfl, Nat.le_of_ble_eq_true rfl⟩) FrX.none rfl rfl (Nat.le_of_ble_eq_true rfl) dX8_links_23 ⟨Nat.zero_le _, Nat.zero_le _⟩ ?_
      refine q_iadd C dX8_links_26 ?_
      refine q_istore_n C [(1, .int (v1 + x23)), (0, .ref (a 0)), (2, .int v2)] dX8_links_27 (by decide) rfl ?_
      refine q_iinc C (v2 + 1) 2 [(2, .int (v2 + 1)), (1, .int (v1 + x23)), (0, .ref (a 0))] dX8_links_28 rfl rfl (by decide) rfl ?_
      refine q_goto C 4 dX8_links_31 (by decide) ?_
      refine q_lv [(0, .ref (a 0)), (1, .int (v1 + x23)), (2, .int (v2 + 1))] [2, 1, 0] rfl ?_
      exact ih _ _ hf
set_option maxRecDepth 100000 in
set_option maxHeartbeats 4000000 in
theorem kX8_links (l : Launch) (D : va_G) (cI cJ cZ cN cM : ClassId) (a : Nat → Nat) (w : (Nat → Int32)) (kn : Int32) (kp : Int32) (sd : Int32) (ks : (Nat → Int32)) (bo : (Nat → Int32)) (bi : (Nat → Int32)) (bk : Int32) (ri : (Nat → Int32)) (fm : (Nat → Int32)) (tt : (Nat → Int32)) (le : Int32) (wa : (Nat → Int32)) (hd : (Nat → Int64)) (sx : (Nat → Int32)) (b1 : (Nat → Int64)) (b2 : (Nat → Int64))  (r : Int32) (hf : fX8_links w = some r) : MetI l yX8_links wsX8_links rmX8_links D (TYL cI cJ cZ cN cM) [.ref (a 0)] (mW cI cJ cZ cN cM a w kn kp sd ks bo bi bk ri fm tt le wa hd sx b1 b2) (mW cI cJ cZ cN cM a w kn kp sd ks bo bi bk ri fm tt le wa hd sx b1 b2) r := by
  refine MetI.mk (cc := cX8_links) (maxL := 3) (own := RX8) (ty := .int) [(0, .ref (a 0))] (by decide +kernel) rfl rfl (Nat.le_of_ble_eq_true rfl) rfl ?_
  intro p e s m args below meth c A Q C hret
  unfold fX8_links at hf
  refine q_iconst C 0 dX8_links_0 (by decide) ?_
  refine q_istore_n C [(1, .int (0 : Int32)), (0, .ref (a 0))] dX8_links_1 (by decide) rfl ?_
  refine q_iconst C 0 dX8_links_2 (by decide) ?_
  refine q_istore_n C [(2, .int (0 : Int32)), (1, .int (0 : Int32)), (0, .ref (a 0))] dX8_links_3 (by decide) rfl ?_
  obtain ⟨v1_4, hL, hf⟩ := bd_e hf
  refine q_lv [(0, .ref (a 0)), (1, .int (0 : Int32)), (2, .int (0 : Int32))] [2, 1, 0] rfl ?_
  refine wX8_links_L4 C a w kn kp sd ks bo bi bk ri fm tt le wa hd sx b1 b2  v1_4 ?_ 300 _ _ hL
  refine q_iload_n C 0 dX8_links_34 rfl ?_
  refine q_iconst C 2 dX8_links_35 (by decide) ?_
  refine q_idivC C dX8_links_36 (by decide) ?_
  have hz1 := Option.some.inj hf
  clear hf
  subst hz1
  exact hret _ _ dX8_links_37 rfl

theorem lkX8_lostLinks_1 : Cond.fieldLink RX8 9 "TwiceHeardModel" "w" "[I" ∈ wsX8_lostLinks := List.mem_of_getElem? (i := 1) rfl
theorem inX8_lostLinks_X8 : ∀ w ∈ wsX80, w ∈ wsX8_lostLinks := fun w h => List.mem_cons_of_mem _ (List.mem_append_right _ h)
abbrev rmX8_lostLinks : Room := { frames := 2, cells := 0, slots := 0, locals := 43 }
theorem hdX8_lostLinks : yX8_lostLinks.cls = RX8 ∧ yX8_lostLinks.cls ≠ "java/lang/invoke/MethodHandle" ∧ yX8_lostLinks.cls ≠ "java/lang/invoke/VarHandle" ∧ (parseMethodDescriptor yX8_lostLinks.desc).map (fun d => d.parameters.length) = some 0 := by decide +kernel
def fX8_lostLinks_L4 (w : (Nat → Int32)) : Nat → Int32 → Int32 → Option (Int32)
  | 0, _, _ => none
  | n + 1, v1, v2 =>
  if (w 0) ≤ v2 then (
  some v1) else (
  (rdI 570 w ((12 : Int32) + v2)).bind fun x23 =>
  (fX8_ones x23).bind fun x24 =>
  fX8_lostLinks_L4 w n (v1 + x24) (v2 + 1))
def fX8_lostLinks (w : (Nat → Int32))  : Option (Int32) :=
  (fX8_lostLinks_L4 w 300 (0 : Int32) (0 : Int32)).bind fun v1_4 =>
  some (v1_4 / (2 : Int32))
set_option maxRecDepth 100000 in
set_option maxHeartbeats 4000000 in
theorem wX8_lostLinks_L4 {p : Program} {l : Launch} {e : Env} {s : State} {m : MethodId} {args : Array Value} {below : List Frame} {meth : Method} {c : Code} {Q : State → Prop} {D : va_G} {A : Nat → Prop} {cI cJ cZ cN cM : ClassId} (C : Cx p s m args c cX8_lostLinks 3 RX8 wsX8_lostLinks D (TYL cI cJ cZ cN cM) A) (a : Nat → Nat) (w : (Nat → Int32)) (kn : Int32) (kp : Int32) (sd : Int32) (ks : (Nat → Int32)) (bo : (Nat → Int32)) (bi : (Nat → Int32)) (bk : Int32) (ri : (Nat → Int32)) (fm : (Nat → Int32)) (tt : (Nat → Int32)) (le : Int32) (wa : (Nat → Int32)) (hd : (Nat → Int64)) (sx : (Nat → Int32)) (b1 : (Nat → Int64)) (b2 : (Nat → Int64))  (o1 : Int32) (kk : WW p l e rmX8_lostLinks s m args below meth c Q D A 3 0 0 (mW cI cJ cZ cN cM a w kn kp sd ks bo bi bk ri fm tt le wa hd sx b1 b2) [(1, .int o1)] 35 []) : ∀ (n : Nat) (v1 : Int32) (v2 : Int32), fX8_lostLinks_L4 w n v1 v2 = some o1 → WW p l e rmX8_lostLinks s m args below meth c Q D A 3 0 0 (mW cI cJ cZ cN cM a w kn kp sd ks bo bi bk ri fm tt le wa hd sx b1 b2) [(0, .ref (a 0)), (1, .int v1), (2, .int v2)] 4 [] := by
  intro n
  induction n with
  | zero =>
    intro v1 v2 hf
    rw [fX8_lostLinks_L4] at hf
    cases hf
  | succ n ih =>
    intro v1 v2 hf
    rw [fX8_lostLinks_L4] at hf
    refine q_iload_n C 2 dX8_lostLinks_4 rfl ?_
    refine q_aload_n C 0 dX8_lostLinks_5 rfl ?_
    refine q_get C 0 0 dX8_lostLinks_6 rfl rfl (Nat.le_of_ble_eq_true rfl) inX8_lostLinks_X8 lkX8_lostLinks_1 rfl rfl ?_
    refine q_iconst C 0 dX8_lostLinks_9 (by decide) ?_
    refine q_ialdC C 1 0 dX8_lostLinks_10 rfl rfl (by unfold vp_in; decide) (x := (w 0)) rfl ?_
    refine q_icmp_ge C 35 dX8_lostLinks_11 (by decide) hf (fun hf => ?_) (fun hf => ?_)
    · refine q_lv [(1, .int v1)] [1] rfl ?_
      have hz1 := Option.some.inj hf
      clear hf
      subst hz1
      exact kk
    · refine q_iload_n C 1 dX8_lostLinks_14 rfl ?_
      refine q_aload_n C 0 dX8_lostLinks_15 rfl ?_
      refine q_get C 0 0 dX8_lostLinks_16 rfl rfl (Nat.le_of_ble_eq_true rfl) inX8_lostLinks_X8 lkX8_lostLinks_1 rfl rfl ?_
      refine q_bipush C 12 dX8_lostLinks_19 (by decide) ?_
      refine q_iload_n C 2 dX8_lostLinks_21 rfl ?_
      refine q_iadd C dX8_lostLinks_22 ?_
      refine q_iald C 1 0 dX8_lostLinks_23 rfl rfl hf (fun x23 hf => ?_)
      obtain ⟨x24, hM, hf⟩ := bd_e hf
      refine q_callSI C (mW cI cJ cZ cN cM a w kn kp sd ks bo bi bk ri fm tt le wa hd sx b1 b2) (kX8_ones l D cI cJ cZ cN cM   x23 x24 hM) (va_cwS 1 C.1.2.2.2.2 gX8_lostLinks_X8_ones rfl rfl rfl hdX8_ones ⟨Nat.le_of_ble_eq_true rfl, Nat.le_of_ble_eq_true rfl⟩) FrX.none rfl rfl (Nat.le_of_ble_eq_true rfl) dX8_lostLinks_24 ⟨Nat.zero_le _, Nat.zero_le _⟩ ?_
      refine q_iadd C dX8_lostLinks_27 ?_
      refine q_istore_n C [(1, .int (v1 + x24)), (0, .ref (a 0)), (2, .int v2)] dX8_lostLinks_28 (by decide) rfl ?_
      refine q_iinc C (v2 + 1) 2 [(2, .int (v2 + 1)), (1, .int (v1 + x24)), (0, .ref (a 0))] dX8_lostLinks_29 rfl rfl (by decide) rfl ?_
      refine q_goto C 4 dX8_lostLinks_32 (by decide) ?_
      refine q_lv [(0, .ref (a 0)), (1, .int (v1 + x24)), (2, .int (v2 + 1))] [2, 1, 0] rfl ?_
      exact ih _ _ hf
set_option maxRecDepth 100000 in
set_option maxHeartbeats 4000000 in
theorem kX8_lostLinks (l : Launch) (D : va_G) (cI cJ cZ cN cM : ClassId) (a : Nat → Nat) (w : (Nat → Int32)) (kn : Int32) (kp : Int32) (sd : Int32) (ks : (Nat → Int32)) (bo : (Nat → Int32)) (bi : (Nat → Int32)) (bk : Int32) (ri : (Nat → Int32)) (fm : (Nat → Int32)) (tt : (Nat → Int32)) (le : Int32) (wa : (Nat → Int32)) (hd : (Nat → Int64)) (sx : (Nat → Int32)) (b1 : (Nat → Int64)) (b2 : (Nat → Int64))  (r : Int32) (hf : fX8_lostLinks w = some r) : MetI l yX8_lostLinks wsX8_lostLinks rmX8_lostLinks D (TYL cI cJ cZ cN cM) [.ref (a 0)] (mW cI cJ cZ cN cM a w kn kp sd ks bo bi bk ri fm tt le wa hd sx b1 b2) (mW cI cJ cZ cN cM a w kn kp sd ks bo bi bk ri fm tt le wa hd sx b1 b2) r := by
  refine MetI.mk (cc := cX8_lostLinks) (maxL := 3) (own := RX8) (ty := .int) [(0, .ref (a 0))] (by decide +kernel) rfl rfl (Nat.le_of_ble_eq_true rfl) rfl ?_
  intro p e s m args below meth c A Q C hret
  unfold fX8_lostLinks at hf
  refine q_iconst C 0 dX8_lostLinks_0 (by decide) ?_
  refine q_istore_n C [(1, .int (0 : Int32)), (0, .ref (a 0))] dX8_lostLinks_1 (by decide) rfl ?_
  refine q_iconst C 0 dX8_lostLinks_2 (by decide) ?_
  refine q_istore_n C [(2, .int (0 : Int32)), (1, .int (0 : Int32)), (0, .ref (a 0))] dX8_lostLinks_3 (by decide) rfl ?_
  obtain ⟨v1_4, hL, hf⟩ := bd_e hf
  refine q_lv [(0, .ref (a 0)), (1, .int (0 : Int32)), (2, .int (0 : Int32))] [2, 1, 0] rfl ?_
  refine wX8_lostLinks_L4 C a w kn kp sd ks bo bi bk ri fm tt le wa hd sx b1 b2  v1_4 ?_ 300 _ _ hL
  refine q_iload_n C 0 dX8_lostLinks_35 rfl ?_
  refine q_iconst C 2 dX8_lostLinks_36 (by decide) ?_
  refine q_idivC C dX8_lostLinks_37 (by decide) ?_
  have hz1 := Option.some.inj hf
  clear hf
  subst hz1
  exact hret _ _ dX8_lostLinks_38 rfl

theorem lkX8_wrongEntry_1 : Cond.fieldLink RX8 143 "TwiceHeardModel" "booked" "I" ∈ wsX8_wrongEntry := List.mem_of_getElem? (i := 1) rfl
theorem lkX8_wrongEntry_2 : Cond.fieldLink RX8 16 "TwiceHeardModel" "bookOf" "[I" ∈ wsX8_wrongEntry := List.mem_of_getElem? (i := 2) rfl
theorem lkX8_wrongEntry_3 : Cond.fieldLink RX8 22 "TwiceHeardModel" "ring" "[I" ∈ wsX8_wrongEntry := List.mem_of_getElem? (i := 3) rfl
theorem lkX8_wrongEntry_4 : Cond.fieldLink RX8 19 "TwiceHeardModel" "bookIs" "[I" ∈ wsX8_wrongEntry := List.mem_of_getElem? (i := 4) rfl
theorem inX8_wrongEntry_X8 : ∀ w ∈ wsX80, w ∈ wsX8_wrongEntry := fun w h => List.mem_cons_of_mem _ (List.mem_append_right _ h)
abbrev rmX8_wrongEntry : Room := { frames := 6, cells := 0, slots := 0, locals := 146 }
theorem hdX8_wrongEntry : yX8_wrongEntry.cls = RX8 ∧ yX8_wrongEntry.cls ≠ "java/lang/invoke/MethodHandle" ∧ yX8_wrongEntry.cls ≠ "java/lang/invoke/VarHandle" ∧ (parseMethodDescriptor yX8_wrongEntry.desc).map (fun d => d.parameters.length) = some 0 := by decide +kernel
def fX8_wrongEntry_L2 (w : (Nat → Int32)) (bo : (Nat → Int32)) (bi : (Nat → Int32)) (bk : Int32) : Nat → Int32 → (Nat → Int32) → (Nat → Int32) → (Nat → Int32) → Int32 → (Nat → Int64) → (Nat → Int32) → Option (((Int32 × (Nat → Int32) × (Nat → Int32) × (Nat → Int32) × Int32 × (Nat → Int64) × (Nat → Int32)) ⊕ ((Nat → Int32) × (Nat → Int32) × (Nat → Int32) × Int32 × (Nat → Int64) × (Nat → Int32))))
  | 0, _, _, _, _, _, _, _ => none
  | n + 1, v1, ri, fm, tt, le, hd, sx =>
  if bk ≤ v1 then (
  some (.inr (ri, fm, tt, le, hd, sx))) else (
  (fX8_layRings w ri).bind fun ri_11 =>
  (rdI 20 bo v1).bind fun x20 =>
  (fX8_isNode w x20).bind fun x21 =>
  if x21 = 0 then (
  some (.inl (v1, ri_11, fm, tt, le, hd, sx))) else (
  (rdI 20 bo v1).bind fun x36 =>
  (rdI 9 ri_11 x36).bind fun x37 =>
  if x37 = (-1 : Int32) then (
  some (.inl (v1, ri_11, fm, tt, le, hd, sx))) else (
  (rdI 20 bo v1).bind fun x48 =>
  bd7 (fX8_byBits w ri_11 fm tt le hd sx x48) fun x49 ri_49 fm_49 tt_49 le_49 hd_49 sx_49 =>
  (rdI 20 bi v1).bind fun x57 =>
  if x49 = x57 then (
  fX8_wrongEntry_L2 w bo bi bk n (v1 + 1) ri_49 fm_49 tt_49 le_49 hd_49 sx_49) else (
  some (.inl (v1, ri_49, fm_49, tt_49, le_49, hd_49, sx_49))))))
def fX8_wrongEntry (w : (Nat → Int32)) (bo : (Nat → Int32)) (bi : (Nat → Int32)) (bk : Int32) (ri : (Nat → Int32)) (fm : (Nat → Int32)) (tt : (Nat → Int32)) (le : Int32) (hd : (Nat → Int64)) (sx : (Nat → Int32))  : Option (Int32 × (Nat → Int32) × (Nat → Int32) × (Nat → Int32) × Int32 × (Nat → Int64) × (Nat → Int32)) :=
  bdS (fX8_wrongEntry_L2 w bo bi bk 300 (0 : Int32) ri fm tt le hd sx) (fun (v1_2, ri_2, fm_2, tt_2, le_2, hd_2, sx_2) =>
  some (v1_2, ri_2, fm_2, tt_2, le_2, hd_2, sx_2)) (fun (ri_2, fm_2, tt_2, le_2, hd_2, sx_2) =>
  some ((-1 : Int32), ri_2, fm_2, tt_2, le_2, hd_2, sx_2))
set_option maxRecDepth 100000 in
set_option maxHeartbeats 4000000 in
theorem wX8_wrongEntry_L2 {p : Program} {l : Launch} {e : Env} {s : State} {m : MethodId} {args : Array Value} {below : List Frame} {meth : Method} {c : Code} {Q : State → Prop} {D : va_G} {A : Nat → Prop} {cI cJ cZ cN cM : ClassId} (C : Cx p s m args c cX8_wrongEntry 2 RX8 wsX8_wrongEntry D (TYL cI cJ cZ cN cM) A) (a : Nat → Nat) (w : (Nat → Int32)) (kn : Int32) (kp : Int32) (sd : Int32) (ks : (Nat → Int32)) (bo : (Nat → Int32)) (bi : (Nat → Int32)) (bk : Int32) (wa : (Nat → Int32)) (b1 : (Nat → Int64)) (b2 : (Nat → Int64))  (o : ((Int32 × (Nat → Int32) × (Nat → Int32) × (Nat → Int32) × Int32 × (Nat → Int64) × (Nat → Int32)) ⊕ ((Nat → Int32) × (Nat → Int32) × (Nat → Int32) × Int32 × (Nat → Int64) × (Nat → Int32))))  (kk1 : ∀ (o1 : Int32) (ri_o : (Nat → Int32)) (fm_o : (Nat → Int32)) (tt_o : (Nat → Int32)) (le_o : Int32) (hd_o : (Nat → Int64)) (sx_o : (Nat → Int32)), o = .inl (o1, ri_o, fm_o, tt_o, le_o, hd_o, sx_o) → WW p l e rmX8_wrongEntry s m args below meth c Q D A 2 0 0 (mW cI cJ cZ cN cM a w kn kp sd ks bo bi bk ri_o fm_o tt_o le_o wa hd_o sx_o b1 b2) [(1, .int o1)] 61 []) (kk2 : ∀ (ri_o : (Nat → Int32)) (fm_o : (Nat → Int32)) (tt_o : (Nat → Int32)) (le_o : Int32) (hd_o : (Nat → Int64)) (sx_o : (Nat → Int32)), o = .inr (ri_o, fm_o, tt_o, le_o, hd_o, sx_o) → WW p l e rmX8_wrongEntry s m args below meth c Q D A 2 0 0 (mW cI cJ cZ cN cM a w kn kp sd ks bo bi bk ri_o fm_o tt_o le_o wa hd_o sx_o b1 b2) [] 69 []) : ∀ (n : Nat) (v1 : Int32) (ri : (Nat → Int32)) (fm : (Nat → Int32)) (tt : (Nat → Int32)) (le : Int32) (hd : (Nat → Int64)) (sx : (Nat → Int32)), fX8_wrongEntry_L2 w bo bi bk n v1 ri fm tt le hd sx = some o → WW p l e rmX8_wrongEntry s m args below meth c Q D A 2 0 0 (mW cI cJ cZ cN cM a w kn kp sd ks bo bi bk ri fm tt le wa hd sx b1 b2) [(0, .ref (a 0)), (1, .int v1)] 2 [] := by
  intro n
  induction n with
  | zero =>
    intro v1 ri fm tt le hd sx hf
    rw [fX8_wrongEntry_L2] at hf
    cases hf
  | succ n ih =>
    intro v1 ri fm tt le hd sx hf
    rw [fX8_wrongEntry_L2] at hf
    refine q_iload_n C 1 dX8_wrongEntry_2 rfl ?_
    refine q_aload_n C 0 dX8_wrongEntry_3 rfl ?_
    refine q_get C 0 7 dX8_wrongEntry_4 rfl rfl (Nat.le_of_ble_eq_true rfl) inX8_wrongEntry_X8 lkX8_wrongEntry_1 rfl rfl ?_
    refine q_icmp_ge C 69 dX8_wrongEntry_7 (by decide) hf (fun hf => ?_) (fun hf => ?_)
    · refine q_lv [] [] rfl ?_
      have hz1 := Option.some.inj hf
      clear hf
      subst hz1
      exact kk2 _ _ _ _ _ _ rfl
    · refine q_aload_n C 0 dX8_wrongEntry_10 rfl ?_
      obtain ⟨ri_11, hM, hf⟩ := bd_e hf
      refine q_callVV C (mW cI cJ cZ cN cM a w kn kp sd ks bo bi bk ri_11 fm tt le wa hd sx b1 b2) (kX8_layRings l D cI cJ cZ cN cM a w kn kp sd ks bo bi bk ri fm tt le wa hd sx b1 b2  ri_11 hM) (cwV 0 C.1.2.2.2.2 gX8_wrongEntry_X8_layRings rfl rfl rfl hdX8_layRings ⟨Nat.le_of_ble_eq_true rfl, Nat.le_of_ble_eq_true rfl⟩) 0 7 rfl rfl FrX.all rfl rfl (Nat.le_of_ble_eq_true rfl) dX8_wrongEntry_11 ⟨Nat.zero_le _, Nat.zero_le _⟩ ?_
      refine q_aload_n C 0 dX8_wrongEntry_14 rfl ?_
      refine q_aload_n C 0 dX8_wrongEntry_15 rfl ?_
      refine q_get C 0 5 dX8_wrongEntry_16 rfl rfl (Nat.le_of_ble_eq_true rfl) inX8_wrongEntry_X8 lkX8_wrongEntry_2 rfl rfl ?_
      refine q_iload_n C 1 dX8_wrongEntry_19 rfl ?_
      refine q_iald C 3 0 dX8_wrongEntry_20 rfl rfl hf (fun x20 hf => ?_)
      obtain ⟨x21, hM, hf⟩ := bd_e hf
      refine q_callVI C (mW cI cJ cZ cN cM a w kn kp sd ks bo bi bk ri_11 fm tt le wa hd sx b1 b2) (kX8_isNode l D cI cJ cZ cN cM a w kn kp sd ks bo bi bk ri_11 fm tt le wa hd sx b1 b2 x20 x21 hM) (cwV 1 C.1.2.2.2.2 gX8_wrongEntry_X8_isNode rfl rfl rfl hdX8_isNode ⟨Nat.le_of_ble_eq_true rfl, Nat.le_of_ble_eq_true rfl⟩) 0 7 rfl rfl FrX.all rfl rfl (Nat.le_of_ble_eq_true rfl) dX8_wrongEntry_21 ⟨Nat.zero_le _, Nat.zero_le _⟩ ?_
      refine q_if_eq C 61 dX8_wrongEntry_24 (by decide) hf (fun hf => ?_) (fun hf => ?_)
      · refine q_lv [(1, .int v1)] [1] rfl ?_
        have hz1 := Option.some.inj hf
        clear hf
        subst hz1
        exact kk1 _ _ _ _ _ _ _ rfl
      · refine q_aload_n C 0 dX8_wrongEntry_27 rfl ?_
        refine q_get C 0 8 dX8_wrongEntry_28 rfl rfl (Nat.le_of_ble_eq_true rfl) inX8_wrongEntry_X8 lkX8_wrongEntry_3 rfl rfl ?_
        refine q_aload_n C 0 dX8_wrongEntry_31 rfl ?_
        refine q_get C 0 5 dX8_wrongEntry_32 rfl rfl (Nat.le_of_ble_eq_true rfl) inX8_wrongEntry_X8 lkX8_wrongEntry_2 rfl rfl ?_
        refine q_iload_n C 1 dX8_wrongEntry_35 rfl ?_
        refine q_iald C 3 0 dX8_wrongEntry_36 rfl rfl hf (fun x36 hf => ?_)
        refine q_iald C 5 0 dX8_wrongEntry_37 rfl rfl hf (fun x37 hf => ?_)
        refine q_iconst C (-1) dX8_wrongEntry_38 (by decide) ?_
        refine q_icmp_eq C 61 dX8_wrongEntry_39 (by decide) hf (fun hf => ?_) (fun hf => ?_)
        · refine q_lv [(1, .int v1)] [1] rfl ?_
          have hz1 := Option.some.inj hf
          clear hf
          subst hz1
          exact kk1 _ _ _ _ _ _ _ rfl
        · refine q_aload_n C 0 dX8_wrongEntry_42 rfl ?_
          refine q_aload_n C 0 dX8_wrongEntry_43 rfl ?_
          refine q_get C 0 5 dX8_wrongEntry_44 rfl rfl (Nat.le_of_ble_eq_true rfl) inX8_wrongEntry_X8 lkX8_wrongEntry_2 rfl rfl ?_
          refine q_iload_n C 1 dX8_wrongEntry_47 rfl ?_
          refine q_iald C 3 0 dX8_wrongEntry_48 rfl rfl hf (fun x48 hf => ?_)
          obtain ⟨x49, ri_49, fm_49, tt_49, le_49, hd_49, sx_49, hM, hf⟩ := bd7_e hf
          refine q_callVI C (mW cI cJ cZ cN cM a w kn kp sd ks bo bi bk ri_49 fm_49 tt_49 le_49 wa hd_49 sx_49 b1 b2) (kX8_byBits l D cI cJ cZ cN cM a w kn kp sd ks bo bi bk ri_11 fm tt le wa hd sx b1 b2 x48 x49 ri_49 fm_49 tt_49 le_49 hd_49 sx_49 hM) (cwV 1 C.1.2.2.2.2 gX8_wrongEntry_X8_byBits rfl rfl rfl hdX8_byBits ⟨Nat.le_of_ble_eq_true rfl, Nat.le_of_ble_eq_true rfl⟩) 0 7 rfl rfl FrX.all rfl rfl (Nat.le_of_ble_eq_true rfl) dX8_wrongEntry_49 ⟨Nat.zero_le _, Nat.zero_le _⟩ ?_
          refine q_aload_n C 0 dX8_wrongEntry_52 rfl ?_
          refine q_get C 0 6 dX8_wrongEntry_53 rfl rfl (Nat.le_of_ble_eq_true rfl) inX8_wrongEntry_X8 lkX8_wrongEntry_4 rfl rfl ?_
          refine q_iload_n C 1 dX8_wrongEntry_56 rfl ?_
          refine q_iald C 4 0 dX8_wrongEntry_57 rfl rfl hf (fun x57 hf => ?_)
          refine q_icmp_eq C 63 dX8_wrongEntry_58 (by decide) hf (fun hf => ?_) (fun hf => ?_)
          · refine q_iinc C (v1 + 1) 1 [(1, .int (v1 + 1)), (0, .ref (a 0))] dX8_wrongEntry_63 rfl rfl (by decide) rfl ?_
            refine q_goto C 2 dX8_wrongEntry_66 (by decide) ?_
            refine q_lv [(0, .ref (a 0)), (1, .int (v1 + 1))] [1, 0] rfl ?_
            exact ih _ _ _ _ _ _ _ hf
          · refine q_lv [(1, .int v1)] [1] rfl ?_
            have hz1 := Option.some.inj hf
            clear hf
            subst hz1
            exact kk1 _ _ _ _ _ _ _ rfl
set_option maxRecDepth 100000 in
set_option maxHeartbeats 4000000 in
theorem kX8_wrongEntry (l : Launch) (D : va_G) (cI cJ cZ cN cM : ClassId) (a : Nat → Nat) (w : (Nat → Int32)) (kn : Int32) (kp : Int32) (sd : Int32) (ks : (Nat → Int32)) (bo : (Nat → Int32)) (bi : (Nat → Int32)) (bk : Int32) (ri : (Nat → Int32)) (fm : (Nat → Int32)) (tt : (Nat → Int32)) (le : Int32) (wa : (Nat → Int32)) (hd : (Nat → Int64)) (sx : (Nat → Int32)) (b1 : (Nat → Int64)) (b2 : (Nat → Int64))  (r : Int32) (ri_o : (Nat → Int32)) (fm_o : (Nat → Int32)) (tt_o : (Nat → Int32)) (le_o : Int32) (hd_o : (Nat → Int64)) (sx_o : (Nat → Int32)) (hf : fX8_wrongEntry w bo bi bk ri fm tt le hd sx = some (r, ri_o, fm_o, tt_o, le_o, hd_o, sx_o)) : MetI l yX8_wrongEntry wsX8_wrongEntry rmX8_wrongEntry D (TYL cI cJ cZ cN cM) [.ref (a 0)] (mW cI cJ cZ cN cM a w kn kp sd ks bo bi bk ri fm tt le wa hd sx b1 b2) (mW cI cJ cZ cN cM a w kn kp sd ks bo bi bk ri_o fm_o tt_o le_o wa hd_o sx_o b1 b2) r := by
  refine MetI.mk (cc := cX8_wrongEntry) (maxL := 2) (own := RX8) (ty := .int) [(0, .ref (a 0))] (by decide +kernel) rfl rfl (Nat.le_of_ble_eq_true rfl) rfl ?_
  intro p e s m args below meth c A Q C hret
  unfold fX8_wrongEntry at hf
  refine q_iconst C 0 dX8_wrongEntry_0 (by decide) ?_
  refine q_istore_n C [(1, .int (0 : Int32)), (0, .ref (a 0))] dX8_wrongEntry_1 (by decide) rfl ?_
  refine q_lv [(0, .ref (a 0)), (1, .int (0 : Int32))] [1, 0] rfl ?_
  rcases bdS_e hf with ⟨⟨v1_2, ri_2, fm_2, tt_2, le_2, hd_2, sx_2⟩, hL, hf⟩ | ⟨⟨ri_2, fm_2, tt_2, le_2, hd_2, sx_2⟩, hL, hf⟩
  · try dsimp only at hf
    have K : WW p l e rmX8_wrongEntry s m args below meth c Q D A 2 0 0 (mW cI cJ cZ cN cM a w kn kp sd ks bo bi bk ri_2 fm_2 tt_2 le_2 wa hd_2 sx_2 b1 b2) [(1, .int v1_2)] 61 [] := by
      refine q_iload_n C 0 dX8_wrongEntry_61 rfl ?_
      have hy0 := Option.some.inj hf
      clear hf
      obtain ⟨hz1, hy1⟩ := Prod.mk.inj hy0
      clear hy0
      obtain ⟨hz2, hy2⟩ := Prod.mk.inj hy1
      clear hy1
      obtain ⟨hz3, hy3⟩ := Prod.mk.inj hy2
      clear hy2
      obtain ⟨hz4, hy4⟩ := Prod.mk.inj hy3
      clear hy3
      obtain ⟨hz5, hy5⟩ := Prod.mk.inj hy4
      clear hy4
      obtain ⟨hz6, hy6⟩ := Prod.mk.inj hy5
      clear hy5
      subst hz1
      subst hz2
      subst hz3
      subst hz4
      subst hz5
      subst hz6
      subst hy6
      exact hret _ _ dX8_wrongEntry_62 rfl
    exact wX8_wrongEntry_L2 C a w kn kp sd ks bo bi bk wa b1 b2  _ (fun _ _ _ _ _ _ _ hz => by cases hz; exact K) (fun _ _ _ _ _ _ hz => by cases hz) 300 _ _ _ _ _ _ _ hL
  · try dsimp only at hf
    have K : WW p l e rmX8_wrongEntry s m args below meth c Q D A 2 0 0 (mW cI cJ cZ cN cM a w kn kp sd ks bo bi bk ri_2 fm_2 tt_2 le_2 wa hd_2 sx_2 b1 b2) [] 69 [] := by
      refine q_iconst C (-1) dX8_wrongEntry_69 (by decide) ?_
      have hy0 := Option.some.inj hf
      clear hf
      obtain ⟨hz1, hy1⟩ := Prod.mk.inj hy0
      clear hy0
      obtain ⟨hz2, hy2⟩ := Prod.mk.inj hy1
      clear hy1
      obtain ⟨hz3, hy3⟩ := Prod.mk.inj hy2
      clear hy2
      obtain ⟨hz4, hy4⟩ := Prod.mk.inj hy3
      clear hy3
      obtain ⟨hz5, hy5⟩ := Prod.mk.inj hy4
      clear hy4
      obtain ⟨hz6, hy6⟩ := Prod.mk.inj hy5
      clear hy5
      subst hz1
      subst hz2
      subst hz3
      subst hz4
      subst hz5
      subst hz6
      subst hy6
      exact hret _ _ dX8_wrongEntry_70 rfl
    exact wX8_wrongEntry_L2 C a w kn kp sd ks bo bi bk wa b1 b2  _ (fun _ _ _ _ _ _ _ hz => by cases hz) (fun _ _ _ _ _ _ hz => by cases hz; exact K) 300 _ _ _ _ _ _ _ hL

theorem inX8_outermost_X8 : ∀ w ∈ wsX80, w ∈ wsX8_outermost := fun w h => List.mem_cons_of_mem _ (List.mem_append_right _ h)
abbrev rmX8_outermost : Room := { frames := 3, cells := 0, slots := 0, locals := 66 }
theorem hdX8_outermost : yX8_outermost.cls = RX8 ∧ yX8_outermost.cls ≠ "java/lang/invoke/MethodHandle" ∧ yX8_outermost.cls ≠ "java/lang/invoke/VarHandle" ∧ (parseMethodDescriptor yX8_outermost.desc).map (fun d => d.parameters.length) = some 0 := by decide +kernel
def fX8_outermost (w : (Nat → Int32)) (ri : (Nat → Int32))  : Option (Int32 × (Nat → Int32)) :=
  (fX8_layRings w ri).bind fun ri_1 =>
  (fX8_greatestRing w ri_1).bind fun x5 =>
  some (x5, ri_1)
set_option maxRecDepth 100000 in
set_option maxHeartbeats 4000000 in
theorem kX8_outermost (l : Launch) (D : va_G) (cI cJ cZ cN cM : ClassId) (a : Nat → Nat) (w : (Nat → Int32)) (kn : Int32) (kp : Int32) (sd : Int32) (ks : (Nat → Int32)) (bo : (Nat → Int32)) (bi : (Nat → Int32)) (bk : Int32) (ri : (Nat → Int32)) (fm : (Nat → Int32)) (tt : (Nat → Int32)) (le : Int32) (wa : (Nat → Int32)) (hd : (Nat → Int64)) (sx : (Nat → Int32)) (b1 : (Nat → Int64)) (b2 : (Nat → Int64))  (r : Int32) (ri_o : (Nat → Int32)) (hf : fX8_outermost w ri = some (r, ri_o)) : MetI l yX8_outermost wsX8_outermost rmX8_outermost D (TYL cI cJ cZ cN cM) [.ref (a 0)] (mW cI cJ cZ cN cM a w kn kp sd ks bo bi bk ri fm tt le wa hd sx b1 b2) (mW cI cJ cZ cN cM a w kn kp sd ks bo bi bk ri_o fm tt le wa hd sx b1 b2) r := by
  refine MetI.mk (cc := cX8_outermost) (maxL := 1) (own := RX8) (ty := .int) [(0, .ref (a 0))] (by decide +kernel) rfl rfl (Nat.le_of_ble_eq_true rfl) rfl ?_
  intro p e s m args below meth c A Q C hret
  unfold fX8_outermost at hf
  refine q_aload_n C 0 dX8_outermost_0 rfl ?_
  obtain ⟨ri_1, hM, hf⟩ := bd_e hf
  refine q_callVV C (mW cI cJ cZ cN cM a w kn kp sd ks bo bi bk ri_1 fm tt le wa hd sx b1 b2) (kX8_layRings l D cI cJ cZ cN cM a w kn kp sd ks bo bi bk ri fm tt le wa hd sx b1 b2  ri_1 hM) (cwV 0 C.1.2.2.2.2 gX8_outermost_X8_layRings rfl rfl rfl hdX8_layRings ⟨Nat.le_of_ble_eq_true rfl, Nat.le_of_ble_eq_true rfl⟩) 0 7 rfl rfl FrX.all rfl rfl (Nat.le_of_ble_eq_true rfl) dX8_outermost_1 ⟨Nat.zero_le _, Nat.zero_le _⟩ ?_
  refine q_aload_n C 0 dX8_outermost_4 rfl ?_
  obtain ⟨x5, hM, hf⟩ := bd_e hf
  refine q_callVI C (mW cI cJ cZ cN cM a w kn kp sd ks bo bi bk ri_1 fm tt le wa hd sx b1 b2) (kX8_greatestRing l D cI cJ cZ cN cM a w kn kp sd ks bo bi bk ri_1 fm tt le wa hd sx b1 b2  x5 hM) (cwV 0 C.1.2.2.2.2 gX8_outermost_X8_greatestRing rfl rfl rfl hdX8_greatestRing ⟨Nat.le_of_ble_eq_true rfl, Nat.le_of_ble_eq_true rfl⟩) 0 7 rfl rfl FrX.all rfl rfl (Nat.le_of_ble_eq_true rfl) dX8_outermost_5 ⟨Nat.zero_le _, Nat.zero_le _⟩ ?_
  have hy0 := Option.some.inj hf
  clear hf
  obtain ⟨hz1, hy1⟩ := Prod.mk.inj hy0
  clear hy0
  subst hz1
  subst hy1
  exact hret _ _ dX8_outermost_8 rfl

theorem lkX8_letterMany_1 : Cond.fieldLink RX8 77 "TwiceHeardModel" "letters" "I" ∈ wsX8_letterMany := List.mem_of_getElem? (i := 1) rfl
theorem inX8_letterMany_X8 : ∀ w ∈ wsX80, w ∈ wsX8_letterMany := fun w h => List.mem_cons_of_mem _ (List.mem_append_right _ h)
abbrev rmX8_letterMany : Room := { frames := 4, cells := 0, slots := 0, locals := 90 }
theorem hdX8_letterMany : yX8_letterMany.cls = RX8 ∧ yX8_letterMany.cls ≠ "java/lang/invoke/MethodHandle" ∧ yX8_letterMany.cls ≠ "java/lang/invoke/VarHandle" ∧ (parseMethodDescriptor yX8_letterMany.desc).map (fun d => d.parameters.length) = some 0 := by decide +kernel
def fX8_letterMany (w : (Nat → Int32)) (ri : (Nat → Int32)) (fm : (Nat → Int32)) (tt : (Nat → Int32)) (le : Int32)  : Option (Int32 × (Nat → Int32) × (Nat → Int32) × (Nat → Int32) × Int32) :=
  bd4 (fX8_layLetters w ri fm tt le) fun ri_1 fm_1 tt_1 le_1 =>
  some (le_1, ri_1, fm_1, tt_1, le_1)
set_option maxRecDepth 100000 in
set_option maxHeartbeats 4000000 in
theorem kX8_letterMany (l : Launch) (D : va_G) (cI cJ cZ cN cM : ClassId) (a : Nat → Nat) (w : (Nat → Int32)) (kn : Int32) (kp : Int32) (sd : Int32) (ks : (Nat → Int32)) (bo : (Nat → Int32)) (bi : (Nat → Int32)) (bk : Int32) (ri : (Nat → Int32)) (fm : (Nat → Int32)) (tt : (Nat → Int32)) (le : Int32) (wa : (Nat → Int32)) (hd : (Nat → Int64)) (sx : (Nat → Int32)) (b1 : (Nat → Int64)) (b2 : (Nat → Int64))  (r : Int32) (ri_o : (Nat → Int32)) (fm_o : (Nat → Int32)) (tt_o : (Nat → Int32)) (le_o : Int32) (hf : fX8_letterMany w ri fm tt le = some (r, ri_o, fm_o, tt_o, le_o)) : MetI l yX8_letterMany wsX8_letterMany rmX8_letterMany D (TYL cI cJ cZ cN cM) [.ref (a 0)] (mW cI cJ cZ cN cM a w kn kp sd ks bo bi bk ri fm tt le wa hd sx b1 b2) (mW cI cJ cZ cN cM a w kn kp sd ks bo bi bk ri_o fm_o tt_o le_o wa hd sx b1 b2) r := by
  refine MetI.mk (cc := cX8_letterMany) (maxL := 1) (own := RX8) (ty := .int) [(0, .ref (a 0))] (by decide +kernel) rfl rfl (Nat.le_of_ble_eq_true rfl) rfl ?_
  intro p e s m args below meth c A Q C hret
  unfold fX8_letterMany at hf
  refine q_aload_n C 0 dX8_letterMany_0 rfl ?_
  obtain ⟨ri_1, fm_1, tt_1, le_1, hM, hf⟩ := bd4_e hf
  refine q_callVV C (mW cI cJ cZ cN cM a w kn kp sd ks bo bi bk ri_1 fm_1 tt_1 le_1 wa hd sx b1 b2) (kX8_layLetters l D cI cJ cZ cN cM a w kn kp sd ks bo bi bk ri fm tt le wa hd sx b1 b2  ri_1 fm_1 tt_1 le_1 hM) (cwV 0 C.1.2.2.2.2 gX8_letterMany_X8_layLetters rfl rfl rfl hdX8_layLetters ⟨Nat.le_of_ble_eq_true rfl, Nat.le_of_ble_eq_true rfl⟩) 0 7 rfl rfl FrX.all rfl rfl (Nat.le_of_ble_eq_true rfl) dX8_letterMany_1 ⟨Nat.zero_le _, Nat.zero_le _⟩ ?_
  refine q_aload_n C 0 dX8_letterMany_4 rfl ?_
  refine q_get C 0 11 dX8_letterMany_5 rfl rfl (Nat.le_of_ble_eq_true rfl) inX8_letterMany_X8 lkX8_letterMany_1 rfl rfl ?_
  have hy0 := Option.some.inj hf
  clear hf
  obtain ⟨hz1, hy1⟩ := Prod.mk.inj hy0
  clear hy0
  obtain ⟨hz2, hy2⟩ := Prod.mk.inj hy1
  clear hy1
  obtain ⟨hz3, hy3⟩ := Prod.mk.inj hy2
  clear hy2
  obtain ⟨hz4, hy4⟩ := Prod.mk.inj hy3
  clear hy3
  subst hz1
  subst hz2
  subst hz3
  subst hz4
  subst hy4
  exact hret _ _ dX8_letterMany_8 rfl

theorem lkX8_told_1 : Cond.fieldLink RX8 9 "TwiceHeardModel" "w" "[I" ∈ wsX8_told := List.mem_of_getElem? (i := 1) rfl
theorem lkX8_told_2 : Cond.fieldLink RX8 143 "TwiceHeardModel" "booked" "I" ∈ wsX8_told := List.mem_of_getElem? (i := 2) rfl
theorem lkX8_told_3 : Cond.fieldLink RX8 173 "TwiceHeardModel" "known" "I" ∈ wsX8_told := List.mem_of_getElem? (i := 3) rfl
theorem lkX8_told_4 : Cond.fieldLink RX8 176 "TwiceHeardModel" "seed" "I" ∈ wsX8_told := List.mem_of_getElem? (i := 4) rfl
theorem lkX8_told_5 : Cond.constant RX8 179 (-1000000002) ∈ wsX8_told := List.mem_of_getElem? (i := 5) rfl
theorem inX8_told_X8 : ∀ w ∈ wsX80, w ∈ wsX8_told := fun w h => List.mem_cons_of_mem _ (List.mem_append_right _ h)
abbrev rmX8_told : Room := { frames := 7, cells := 0, slots := 0, locals := 167 }
theorem hdX8_told : yX8_told.cls = RX8 ∧ yX8_told.cls ≠ "java/lang/invoke/MethodHandle" ∧ yX8_told.cls ≠ "java/lang/invoke/VarHandle" ∧ (parseMethodDescriptor yX8_told.desc).map (fun d => d.parameters.length) = some 1 := by decide +kernel
def fX8_told (w : (Nat → Int32)) (kn : Int32) (sd : Int32) (bo : (Nat → Int32)) (bi : (Nat → Int32)) (bk : Int32) (ri : (Nat → Int32)) (fm : (Nat → Int32)) (tt : (Nat → Int32)) (le : Int32) (wa : (Nat → Int32)) (hd : (Nat → Int64)) (sx : (Nat → Int32)) (v1 : Int32) : Option (Int32 × (Nat → Int32) × (Nat → Int32) × (Nat → Int32) × Int32 × (Nat → Int32) × (Nat → Int64) × (Nat → Int32)) :=
  if v1 = (0 : Int32) then (
  some ((w 0), ri, fm, tt, le, wa, hd, sx)) else (
  if v1 = (1 : Int32) then (
  (fX8_links w).bind fun x80 =>
  some (x80, ri, fm, tt, le, wa, hd, sx)) else (
  if v1 = (2 : Int32) then (
  (fX8_lostLinks w).bind fun x85 =>
  some (x85, ri, fm, tt, le, wa, hd, sx)) else (
  if v1 = (3 : Int32) then (
  some ((w 1), ri, fm, tt, le, wa, hd, sx)) else (
  if v1 = (4 : Int32) then (
  some ((w 2), ri, fm, tt, le, wa, hd, sx)) else (
  if v1 = (5 : Int32) then (
  bd2 (fX8_outermost w ri) fun x104 ri_104 =>
  some (x104, ri_104, fm, tt, le, wa, hd, sx)) else (
  if v1 = (6 : Int32) then (
  bd6 (fX8_comesSet w ri fm tt le wa) fun x109 ri_109 fm_109 tt_109 le_109 wa_109 =>
  some (x109, ri_109, fm_109, tt_109, le_109, wa_109, hd, sx)) else (
  if v1 = (7 : Int32) then (
  bd2 (fX8_truth w ri) fun x114 ri_114 =>
  some (x114, ri_114, fm, tt, le, wa, hd, sx)) else (
  if v1 = (8 : Int32) then (
  bd5 (fX8_letterMany w ri fm tt le) fun x119 ri_119 fm_119 tt_119 le_119 =>
  some (x119, ri_119, fm_119, tt_119, le_119, wa, hd, sx)) else (
  if v1 = (9 : Int32) then (
  bd5 (fX8_lostLetters w ri fm tt le) fun x124 ri_124 fm_124 tt_124 le_124 =>
  some (x124, ri_124, fm_124, tt_124, le_124, wa, hd, sx)) else (
  if v1 = (10 : Int32) then (
  some (bk, ri, fm, tt, le, wa, hd, sx)) else (
  if v1 = (11 : Int32) then (
  bd7 (fX8_wrongEntry w bo bi bk ri fm tt le hd sx) fun x134 ri_134 fm_134 tt_134 le_134 hd_134 sx_134 =>
  some (x134, ri_134, fm_134, tt_134, le_134, wa, hd_134, sx_134)) else (
  if v1 = (12 : Int32) then (
  some (kn, ri, fm, tt, le, wa, hd, sx)) else (
  if v1 = (13 : Int32) then (
  some (sd, ri, fm, tt, le, wa, hd, sx)) else (
  some ((-1000000002 : Int32), ri, fm, tt, le, wa, hd, sx)))))))))))))))
set_option maxRecDepth 100000 in
set_option maxHeartbeats 4000000 in
theorem kX8_told (l : Launch) (D : va_G) (cI cJ cZ cN cM : ClassId) (a : Nat → Nat) (w : (Nat → Int32)) (kn : Int32) (kp : Int32) (sd : Int32) (ks : (Nat → Int32)) (bo : (Nat → Int32)) (bi : (Nat → Int32)) (bk : Int32) (ri : (Nat → Int32)) (fm : (Nat → Int32)) (tt : (Nat → Int32)) (le : Int32) (wa : (Nat → Int32)) (hd : (Nat → Int64)) (sx : (Nat → Int32)) (b1 : (Nat → Int64)) (b2 : (Nat → Int64)) (v1 : Int32) (r : Int32) (ri_o : (Nat → Int32)) (fm_o : (Nat → Int32)) (tt_o : (Nat → Int32)) (le_o : Int32) (wa_o : (Nat → Int32)) (hd_o : (Nat → Int64)) (sx_o : (Nat → Int32)) (hf : fX8_told w kn sd bo bi bk ri fm tt le wa hd sx v1 = some (r, ri_o, fm_o, tt_o, le_o, wa_o, hd_o, sx_o)) : MetI l yX8_told wsX8_told rmX8_told D (TYL cI cJ cZ cN cM) [.ref (a 0), .int v1] (mW cI cJ cZ cN cM a w kn kp sd ks bo bi bk ri fm tt le wa hd sx b1 b2) (mW cI cJ cZ cN cM a w kn kp sd ks bo bi bk ri_o fm_o tt_o le_o wa_o hd_o sx_o b1 b2) r := by
  refine MetI.mk (cc := cX8_told) (maxL := 2) (own := RX8) (ty := .int) [(0, .ref (a 0)), (1, .int v1)] (by decide +kernel) rfl rfl (Nat.le_of_ble_eq_true rfl) rfl ?_
  intro p e s m args below meth c A Q C hret
  unfold fX8_told at hf
  refine q_iload_n C 1 dX8_told_0 rfl ?_
  refine q_sw C 0 71 0 72 dX8_told_1 rfl (by decide) (by decide) rfl (by decide) hf (fun hf => ?_) (fun hn0 hf => ?_)
  · refine q_aload_n C 0 dX8_told_72 rfl ?_
    refine q_get C 0 0 dX8_told_73 rfl rfl (Nat.le_of_ble_eq_true rfl) inX8_told_X8 lkX8_told_1 rfl rfl ?_
    refine q_iconst C 0 dX8_told_76 (by decide) ?_
    refine q_ialdC C 1 0 dX8_told_77 rfl rfl (by unfold vp_in; decide) (x := (w 0)) rfl ?_
    have hy0 := Option.some.inj hf
    clear hf
    obtain ⟨hz1, hy1⟩ := Prod.mk.inj hy0
    clear hy0
    obtain ⟨hz2, hy2⟩ := Prod.mk.inj hy1
    clear hy1
    obtain ⟨hz3, hy3⟩ := Prod.mk.inj hy2
    clear hy2
    obtain ⟨hz4, hy4⟩ := Prod.mk.inj hy3
    clear hy3
    obtain ⟨hz5, hy5⟩ := Prod.mk.inj hy4
    clear hy4
    obtain ⟨hz6, hy6⟩ := Prod.mk.inj hy5
    clear hy5
    obtain ⟨hz7, hy7⟩ := Prod.mk.inj hy6
    clear hy6
    subst hz1
    subst hz2
    subst hz3
    subst hz4
    subst hz5
    subst hz6
    subst hz7
    subst hy7
    exact hret _ _ dX8_told_78 rfl
  refine q_sw C 1 78 1 79 dX8_told_1 rfl (by decide) (by decide) rfl (by decide) hf (fun hf => ?_) (fun hn1 hf => ?_)
  · refine q_aload_n C 0 dX8_told_79 rfl ?_
    obtain ⟨x80, hM, hf⟩ := bd_e hf
    refine q_callVI C (mW cI cJ cZ cN cM a w kn kp sd ks bo bi bk ri fm tt le wa hd sx b1 b2) (kX8_links l D cI cJ cZ cN cM a w kn kp sd ks bo bi bk ri fm tt le wa hd sx b1 b2  x80 hM) (cwV 0 C.1.2.2.2.2 gX8_told_X8_links rfl rfl rfl hdX8_links ⟨Nat.le_of_ble_eq_true rfl, Nat.le_of_ble_eq_true rfl⟩) 0 7 rfl rfl FrX.all rfl rfl (Nat.le_of_ble_eq_true rfl) dX8_told_80 ⟨Nat.zero_le _, Nat.zero_le _⟩ ?_
    have hy0 := Option.some.inj hf
    clear hf
    obtain ⟨hz1, hy1⟩ := Prod.mk.inj hy0
    clear hy0
    obtain ⟨hz2, hy2⟩ := Prod.mk.inj hy1
    clear hy1
    obtain ⟨hz3, hy3⟩ := Prod.mk.inj hy2
    clear hy2
    obtain ⟨hz4, hy4⟩ := Prod.mk.inj hy3
    clear hy3
    obtain ⟨hz5, hy5⟩ := Prod.mk.inj hy4
    clear hy4
    obtain ⟨hz6, hy6⟩ := Prod.mk.inj hy5
    clear hy5
    obtain ⟨hz7, hy7⟩ := Prod.mk.inj hy6
    clear hy6
    subst hz1
    subst hz2
    subst hz3
    subst hz4
    subst hz5
    subst hz6
    subst hz7
    subst hy7
    exact hret _ _ dX8_told_83 rfl
  refine q_sw C 2 83 2 84 dX8_told_1 rfl (by decide) (by decide) rfl (by decide) hf (fun hf => ?_) (fun hn2 hf => ?_)
  · refine q_aload_n C 0 dX8_told_84 rfl ?_
    obtain ⟨x85, hM, hf⟩ := bd_e hf
    refine q_callVI C (mW cI cJ cZ cN cM a w kn kp sd ks bo bi bk ri fm tt le wa hd sx b1 b2) (kX8_lostLinks l D cI cJ cZ cN cM a w kn kp sd ks bo bi bk ri fm tt le wa hd sx b1 b2  x85 hM) (cwV 0 C.1.2.2.2.2 gX8_told_X8_lostLinks rfl rfl rfl hdX8_lostLinks ⟨Nat.le_of_ble_eq_true rfl, Nat.le_of_ble_eq_true rfl⟩) 0 7 rfl rfl FrX.all rfl rfl (Nat.le_of_ble_eq_true rfl) dX8_told_85 ⟨Nat.zero_le _, Nat.zero_le _⟩ ?_
    have hy0 := Option.some.inj hf
    clear hf
    obtain ⟨hz1, hy1⟩ := Prod.mk.inj hy0
    clear hy0
    obtain ⟨hz2, hy2⟩ := Prod.mk.inj hy1
    clear hy1
    obtain ⟨hz3, hy3⟩ := Prod.mk.inj hy2
    clear hy2
    obtain ⟨hz4, hy4⟩ := Prod.mk.inj hy3
    clear hy3
    obtain ⟨hz5, hy5⟩ := Prod.mk.inj hy4
    clear hy4
    obtain ⟨hz6, hy6⟩ := Prod.mk.inj hy5
    clear hy5
    obtain ⟨hz7, hy7⟩ := Prod.mk.inj hy6
    clear hy6
    subst hz1
    subst hz2
    subst hz3
    subst hz4
    subst hz5
    subst hz6
    subst hz7
    subst hy7
    exact hret _ _ dX8_told_88 rfl
  refine q_sw C 3 88 3 89 dX8_told_1 rfl (by decide) (by decide) rfl (by decide) hf (fun hf => ?_) (fun hn3 hf => ?_)
  · refine q_aload_n C 0 dX8_told_89 rfl ?_
    refine q_get C 0 0 dX8_told_90 rfl rfl (Nat.le_of_ble_eq_true rfl) inX8_told_X8 lkX8_told_1 rfl rfl ?_
    refine q_iconst C 1 dX8_told_93 (by decide) ?_
    refine q_ialdC C 1 0 dX8_told_94 rfl rfl (by unfold vp_in; decide) (x := (w 1)) rfl ?_
    have hy0 := Option.some.inj hf
    clear hf
    obtain ⟨hz1, hy1⟩ := Prod.mk.inj hy0
    clear hy0
    obtain ⟨hz2, hy2⟩ := Prod.mk.inj hy1
    clear hy1
    obtain ⟨hz3, hy3⟩ := Prod.mk.inj hy2
    clear hy2
    obtain ⟨hz4, hy4⟩ := Prod.mk.inj hy3
    clear hy3
    obtain ⟨hz5, hy5⟩ := Prod.mk.inj hy4
    clear hy4
    obtain ⟨hz6, hy6⟩ := Prod.mk.inj hy5
    clear hy5
    obtain ⟨hz7, hy7⟩ := Prod.mk.inj hy6
    clear hy6
    subst hz1
    subst hz2
    subst hz3
    subst hz4
    subst hz5
    subst hz6
    subst hz7
    subst hy7
    exact hret _ _ dX8_told_95 rfl
  refine q_sw C 4 95 4 96 dX8_told_1 rfl (by decide) (by decide) rfl (by decide) hf (fun hf => ?_) (fun hn4 hf => ?_)
  · refine q_aload_n C 0 dX8_told_96 rfl ?_
    refine q_get C 0 0 dX8_told_97 rfl rfl (Nat.le_of_ble_eq_true rfl) inX8_told_X8 lkX8_told_1 rfl rfl ?_
    refine q_iconst C 2 dX8_told_100 (by decide) ?_
    refine q_ialdC C 1 0 dX8_told_101 rfl rfl (by unfold vp_in; decide) (x := (w 2)) rfl ?_
    have hy0 := Option.some.inj hf
    clear hf
    obtain ⟨hz1, hy1⟩ := Prod.mk.inj hy0
    clear hy0
    obtain ⟨hz2, hy2⟩ := Prod.mk.inj hy1
    clear hy1
    obtain ⟨hz3, hy3⟩ := Prod.mk.inj hy2
    clear hy2
    obtain ⟨hz4, hy4⟩ := Prod.mk.inj hy3
    clear hy3
    obtain ⟨hz5, hy5⟩ := Prod.mk.inj hy4
    clear hy4
    obtain ⟨hz6, hy6⟩ := Prod.mk.inj hy5
    clear hy5
    obtain ⟨hz7, hy7⟩ := Prod.mk.inj hy6
    clear hy6
    subst hz1
    subst hz2
    subst hz3
    subst hz4
    subst hz5
    subst hz6
    subst hz7
    subst hy7
    exact hret _ _ dX8_told_102 rfl
  refine q_sw C 5 102 5 103 dX8_told_1 rfl (by decide) (by decide) rfl (by decide) hf (fun hf => ?_) (fun hn5 hf => ?_)
  · refine q_aload_n C 0 dX8_told_103 rfl ?_
    obtain ⟨x104, ri_104, hM, hf⟩ := bd2_e hf
    refine q_callVI C (mW cI cJ cZ cN cM a w kn kp sd ks bo bi bk ri_104 fm tt le wa hd sx b1 b2) (kX8_outermost l D cI cJ cZ cN cM a w kn kp sd ks bo bi bk ri fm tt le wa hd sx b1 b2  x104 ri_104 hM) (cwV 0 C.1.2.2.2.2 gX8_told_X8_outermost rfl rfl rfl hdX8_outermost ⟨Nat.le_of_ble_eq_true rfl, Nat.le_of_ble_eq_true rfl⟩) 0 7 rfl rfl FrX.all rfl rfl (Nat.le_of_ble_eq_true rfl) dX8_told_104 ⟨Nat.zero_le _, Nat.zero_le _⟩ ?_
    have hy0 := Option.some.inj hf
    clear hf
    obtain ⟨hz1, hy1⟩ := Prod.mk.inj hy0
    clear hy0
    obtain ⟨hz2, hy2⟩ := Prod.mk.inj hy1
    clear hy1
    obtain ⟨hz3, hy3⟩ := Prod.mk.inj hy2
    clear hy2
    obtain ⟨hz4, hy4⟩ := Prod.mk.inj hy3
    clear hy3
    obtain ⟨hz5, hy5⟩ := Prod.mk.inj hy4
    clear hy4
    obtain ⟨hz6, hy6⟩ := Prod.mk.inj hy5
    clear hy5
    obtain ⟨hz7, hy7⟩ := Prod.mk.inj hy6
    clear hy6
    subst hz1
    subst hz2
    subst hz3
    subst hz4
    subst hz5
    subst hz6
    subst hz7
    subst hy7
    exact hret _ _ dX8_told_107 rfl
  refine q_sw C 6 107 6 108 dX8_told_1 rfl (by decide) (by decide) rfl (by decide) hf (fun hf => ?_) (fun hn6 hf => ?_)
  · refine q_aload_n C 0 dX8_told_108 rfl ?_
    obtain ⟨x109, ri_109, fm_109, tt_109, le_109, wa_109, hM, hf⟩ := bd6_e hf
    refine q_callVI C (mW cI cJ cZ cN cM a w kn kp sd ks bo bi bk ri_109 fm_109 tt_109 le_109 wa_109 hd sx b1 b2) (kX8_comesSet l D cI cJ cZ cN cM a w kn kp sd ks bo bi bk ri fm tt le wa hd sx b1 b2  x109 ri_109 fm_109 tt_109 le_109 wa_109 hM) (cwV 0 C.1.2.2.2.2 gX8_told_X8_comesSet rfl rfl rfl hdX8_comesSet ⟨Nat.le_of_ble_eq_true rfl, Nat.le_of_ble_eq_true rfl⟩) 0 7 rfl rfl FrX.all rfl rfl (Nat.le_of_ble_eq_true rfl) dX8_told_109 ⟨Nat.zero_le _, Nat.zero_le _⟩ ?_
    have hy0 := Option.some.inj hf
    clear hf
    obtain ⟨hz1, hy1⟩ := Prod.mk.inj hy0
    clear hy0
    obtain ⟨hz2, hy2⟩ := Prod.mk.inj hy1
    clear hy1
    obtain ⟨hz3, hy3⟩ := Prod.mk.inj hy2
    clear hy2
    obtain ⟨hz4, hy4⟩ := Prod.mk.inj hy3
    clear hy3
    obtain ⟨hz5, hy5⟩ := Prod.mk.inj hy4
    clear hy4
    obtain ⟨hz6, hy6⟩ := Prod.mk.inj hy5
    clear hy5
    obtain ⟨hz7, hy7⟩ := Prod.mk.inj hy6
    clear hy6
    subst hz1
    subst hz2
    subst hz3
    subst hz4
    subst hz5
    subst hz6
    subst hz7
    subst hy7
    exact hret _ _ dX8_told_112 rfl
  refine q_sw C 7 112 7 113 dX8_told_1 rfl (by decide) (by decide) rfl (by decide) hf (fun hf => ?_) (fun hn7 hf => ?_)
  · refine q_aload_n C 0 dX8_told_113 rfl ?_
    obtain ⟨x114, ri_114, hM, hf⟩ := bd2_e hf
    refine q_callVI C (mW cI cJ cZ cN cM a w kn kp sd ks bo bi bk ri_114 fm tt le wa hd sx b1 b2) (kX8_truth l D cI cJ cZ cN cM a w kn kp sd ks bo bi bk ri fm tt le wa hd sx b1 b2  x114 ri_114 hM) (cwV 0 C.1.2.2.2.2 gX8_told_X8_truth rfl rfl rfl hdX8_truth ⟨Nat.le_of_ble_eq_true rfl, Nat.le_of_ble_eq_true rfl⟩) 0 7 rfl rfl FrX.all rfl rfl (Nat.le_of_ble_eq_true rfl) dX8_told_114 ⟨Nat.zero_le _, Nat.zero_le _⟩ ?_
    have hy0 := Option.some.inj hf
    clear hf
    obtain ⟨hz1, hy1⟩ := Prod.mk.inj hy0
    clear hy0
    obtain ⟨hz2, hy2⟩ := Prod.mk.inj hy1
    clear hy1
    obtain ⟨hz3, hy3⟩ := Prod.mk.inj hy2
    clear hy2
    obtain ⟨hz4, hy4⟩ := Prod.mk.inj hy3
    clear hy3
    obtain ⟨hz5, hy5⟩ := Prod.mk.inj hy4
    clear hy4
    obtain ⟨hz6, hy6⟩ := Prod.mk.inj hy5
    clear hy5
    obtain ⟨hz7, hy7⟩ := Prod.mk.inj hy6
    clear hy6
    subst hz1
    subst hz2
    subst hz3
    subst hz4
    subst hz5
    subst hz6
    subst hz7
    subst hy7
    exact hret _ _ dX8_told_117 rfl
  refine q_sw C 8 117 8 118 dX8_told_1 rfl (by decide) (by decide) rfl (by decide) hf (fun hf => ?_) (fun hn8 hf => ?_)
  · refine q_aload_n C 0 dX8_told_118 rfl ?_
    obtain ⟨x119, ri_119, fm_119, tt_119, le_119, hM, hf⟩ := bd5_e hf
    refine q_callVI C (mW cI cJ cZ cN cM a w kn kp sd ks bo bi bk ri_119 fm_119 tt_119 le_119 wa hd sx b1 b2) (kX8_letterMany l D cI cJ cZ cN cM a w kn kp sd ks bo bi bk ri fm tt le wa hd sx b1 b2  x119 ri_119 fm_119 tt_119 le_119 hM) (cwV 0 C.1.2.2.2.2 gX8_told_X8_letterMany rfl rfl rfl hdX8_letterMany ⟨Nat.le_of_ble_eq_true rfl, Nat.le_of_ble_eq_true rfl⟩) 0 7 rfl rfl FrX.all rfl rfl (Nat.le_of_ble_eq_true rfl) dX8_told_119 ⟨Nat.zero_le _, Nat.zero_le _⟩ ?_
    have hy0 := Option.some.inj hf
    clear hf
    obtain ⟨hz1, hy1⟩ := Prod.mk.inj hy0
    clear hy0
    obtain ⟨hz2, hy2⟩ := Prod.mk.inj hy1
    clear hy1
    obtain ⟨hz3, hy3⟩ := Prod.mk.inj hy2
    clear hy2
    obtain ⟨hz4, hy4⟩ := Prod.mk.inj hy3
    clear hy3
    obtain ⟨hz5, hy5⟩ := Prod.mk.inj hy4
    clear hy4
    obtain ⟨hz6, hy6⟩ := Prod.mk.inj hy5
    clear hy5
    obtain ⟨hz7, hy7⟩ := Prod.mk.inj hy6
    clear hy6
    subst hz1
    subst hz2
    subst hz3
    subst hz4
    subst hz5
    subst hz6
    subst hz7
    subst hy7
    exact hret _ _ dX8_told_122 rfl
  refine q_sw C 9 122 9 123 dX8_told_1 rfl (by decide) (by decide) rfl (by decide) hf (fun hf => ?_) (fun hn9 hf => ?_)
  · refine q_aload_n C 0 dX8_told_123 rfl ?_
    obtain ⟨x124, ri_124, fm_124, tt_124, le_124, hM, hf⟩ := bd5_e hf
    refine q_callVI C (mW cI cJ cZ cN cM a w kn kp sd ks bo bi bk ri_124 fm_124 tt_124 le_124 wa hd sx b1 b2) (kX8_lostLetters l D cI cJ cZ cN cM a w kn kp sd ks bo bi bk ri fm tt le wa hd sx b1 b2  x124 ri_124 fm_124 tt_124 le_124 hM) (cwV 0 C.1.2.2.2.2 gX8_told_X8_lostLetters rfl rfl rfl hdX8_lostLetters ⟨Nat.le_of_ble_eq_true rfl, Nat.le_of_ble_eq_true rfl⟩) 0 7 rfl rfl FrX.all rfl rfl (Nat.le_of_ble_eq_true rfl) dX8_told_124 ⟨Nat.zero_le _, Nat.zero_le _⟩ ?_
    have hy0 := Option.some.inj hf
    clear hf
    obtain ⟨hz1, hy1⟩ := Prod.mk.inj hy0
    clear hy0
    obtain ⟨hz2, hy2⟩ := Prod.mk.inj hy1
    clear hy1
    obtain ⟨hz3, hy3⟩ := Prod.mk.inj hy2
    clear hy2
    obtain ⟨hz4, hy4⟩ := Prod.mk.inj hy3
    clear hy3
    obtain ⟨hz5, hy5⟩ := Prod.mk.inj hy4
    clear hy4
    obtain ⟨hz6, hy6⟩ := Prod.mk.inj hy5
    clear hy5
    obtain ⟨hz7, hy7⟩ := Prod.mk.inj hy6
    clear hy6
    subst hz1
    subst hz2
    subst hz3
    subst hz4
    subst hz5
    subst hz6
    subst hz7
    subst hy7
    exact hret _ _ dX8_told_127 rfl
  refine q_sw C 10 127 10 128 dX8_told_1 rfl (by decide) (by decide) rfl (by decide) hf (fun hf => ?_) (fun hn10 hf => ?_)
  · refine q_aload_n C 0 dX8_told_128 rfl ?_
    refine q_get C 0 7 dX8_told_129 rfl rfl (Nat.le_of_ble_eq_true rfl) inX8_told_X8 lkX8_told_2 rfl rfl ?_
    have hy0 := Option.some.inj hf
    clear hf
    obtain ⟨hz1, hy1⟩ := Prod.mk.inj hy0
    clear hy0
    obtain ⟨hz2, hy2⟩ := Prod.mk.inj hy1
    clear hy1
    obtain ⟨hz3, hy3⟩ := Prod.mk.inj hy2
    clear hy2
    obtain ⟨hz4, hy4⟩ := Prod.mk.inj hy3
    clear hy3
    obtain ⟨hz5, hy5⟩ := Prod.mk.inj hy4
    clear hy4
    obtain ⟨hz6, hy6⟩ := Prod.mk.inj hy5
    clear hy5
    obtain ⟨hz7, hy7⟩ := Prod.mk.inj hy6
    clear hy6
    subst hz1
    subst hz2
    subst hz3
    subst hz4
    subst hz5
    subst hz6
    subst hz7
    subst hy7
    exact hret _ _ dX8_told_132 rfl
  refine q_sw C 11 132 11 133 dX8_told_1 rfl (by decide) (by decide) rfl (by decide) hf (fun hf => ?_) (fun hn11 hf => ?_)
  · refine q_aload_n C 0 dX8_told_133 rfl ?_
    obtain ⟨x134, ri_134, fm_134, tt_134, le_134, hd_134, sx_134, hM, hf⟩ := bd7_e hf
    refine q_callVI C (mW cI cJ cZ cN cM a w kn kp sd ks bo bi bk ri_134 fm_134 tt_134 le_134 wa hd_134 sx_134 b1 b2) (kX8_wrongEntry l D cI cJ cZ cN cM a w kn kp sd ks bo bi bk ri fm tt le wa hd sx b1 b2  x134 ri_134 fm_134 tt_134 le_134 hd_134 sx_134 hM) (cwV 0 C.1.2.2.2.2 gX8_told_X8_wrongEntry rfl rfl rfl hdX8_wrongEntry ⟨Nat.le_of_ble_eq_true rfl, Nat.le_of_ble_eq_true rfl⟩) 0 7 rfl rfl FrX.all rfl rfl (Nat.le_of_ble_eq_true rfl) dX8_told_134 ⟨Nat.zero_le _, Nat.zero_le _⟩ ?_
    have hy0 := Option.some.inj hf
    clear hf
    obtain ⟨hz1, hy1⟩ := Prod.mk.inj hy0
    clear hy0
    obtain ⟨hz2, hy2⟩ := Prod.mk.inj hy1
    clear hy1
    obtain ⟨hz3, hy3⟩ := Prod.mk.inj hy2
    clear hy2
    obtain ⟨hz4, hy4⟩ := Prod.mk.inj hy3
    clear hy3
    obtain ⟨hz5, hy5⟩ := Prod.mk.inj hy4
    clear hy4
    obtain ⟨hz6, hy6⟩ := Prod.mk.inj hy5
    clear hy5
    obtain ⟨hz7, hy7⟩ := Prod.mk.inj hy6
    clear hy6
    subst hz1
    subst hz2
    subst hz3
    subst hz4
    subst hz5
    subst hz6
    subst hz7
    subst hy7
    exact hret _ _ dX8_told_137 rfl
  refine q_sw C 12 137 12 138 dX8_told_1 rfl (by decide) (by decide) rfl (by decide) hf (fun hf => ?_) (fun hn12 hf => ?_)
  · refine q_aload_n C 0 dX8_told_138 rfl ?_
    refine q_get C 0 1 dX8_told_139 rfl rfl (Nat.le_of_ble_eq_true rfl) inX8_told_X8 lkX8_told_3 rfl rfl ?_
    have hy0 := Option.some.inj hf
    clear hf
    obtain ⟨hz1, hy1⟩ := Prod.mk.inj hy0
    clear hy0
    obtain ⟨hz2, hy2⟩ := Prod.mk.inj hy1
    clear hy1
    obtain ⟨hz3, hy3⟩ := Prod.mk.inj hy2
    clear hy2
    obtain ⟨hz4, hy4⟩ := Prod.mk.inj hy3
    clear hy3
    obtain ⟨hz5, hy5⟩ := Prod.mk.inj hy4
    clear hy4
    obtain ⟨hz6, hy6⟩ := Prod.mk.inj hy5
    clear hy5
    obtain ⟨hz7, hy7⟩ := Prod.mk.inj hy6
    clear hy6
    subst hz1
    subst hz2
    subst hz3
    subst hz4
    subst hz5
    subst hz6
    subst hz7
    subst hy7
    exact hret _ _ dX8_told_142 rfl
  refine q_sw C 13 142 13 143 dX8_told_1 rfl (by decide) (by decide) rfl (by decide) hf (fun hf => ?_) (fun hn13 hf => ?_)
  · refine q_aload_n C 0 dX8_told_143 rfl ?_
    refine q_get C 0 3 dX8_told_144 rfl rfl (Nat.le_of_ble_eq_true rfl) inX8_told_X8 lkX8_told_4 rfl rfl ?_
    have hy0 := Option.some.inj hf
    clear hf
    obtain ⟨hz1, hy1⟩ := Prod.mk.inj hy0
    clear hy0
    obtain ⟨hz2, hy2⟩ := Prod.mk.inj hy1
    clear hy1
    obtain ⟨hz3, hy3⟩ := Prod.mk.inj hy2
    clear hy2
    obtain ⟨hz4, hy4⟩ := Prod.mk.inj hy3
    clear hy3
    obtain ⟨hz5, hy5⟩ := Prod.mk.inj hy4
    clear hy4
    obtain ⟨hz6, hy6⟩ := Prod.mk.inj hy5
    clear hy5
    obtain ⟨hz7, hy7⟩ := Prod.mk.inj hy6
    clear hy6
    subst hz1
    subst hz2
    subst hz3
    subst hz4
    subst hz5
    subst hz6
    subst hz7
    subst hy7
    exact hret _ _ dX8_told_147 rfl
  have e0 := lv_neT (a := 0) hn0 rfl
  have e1 := lv_neT (a := 1) hn1 rfl
  have e2 := lv_neT (a := 2) hn2 rfl
  have e3 := lv_neT (a := 3) hn3 rfl
  have e4 := lv_neT (a := 4) hn4 rfl
  have e5 := lv_neT (a := 5) hn5 rfl
  have e6 := lv_neT (a := 6) hn6 rfl
  have e7 := lv_neT (a := 7) hn7 rfl
  have e8 := lv_neT (a := 8) hn8 rfl
  have e9 := lv_neT (a := 9) hn9 rfl
  have e10 := lv_neT (a := 10) hn10 rfl
  have e11 := lv_neT (a := 11) hn11 rfl
  have e12 := lv_neT (a := 12) hn12 rfl
  have e13 := lv_neT (a := 13) hn13 rfl
  refine q_swD C 148 dX8_told_1 (by omega) (by decide) ?_
  refine q_ldc C dX8_told_148 lkX8_told_5 ?_
  have hy0 := Option.some.inj hf
  clear hf
  obtain ⟨hz1, hy1⟩ := Prod.mk.inj hy0
  clear hy0
  obtain ⟨hz2, hy2⟩ := Prod.mk.inj hy1
  clear hy1
  obtain ⟨hz3, hy3⟩ := Prod.mk.inj hy2
  clear hy2
  obtain ⟨hz4, hy4⟩ := Prod.mk.inj hy3
  clear hy3
  obtain ⟨hz5, hy5⟩ := Prod.mk.inj hy4
  clear hy4
  obtain ⟨hz6, hy6⟩ := Prod.mk.inj hy5
  clear hy5
  obtain ⟨hz7, hy7⟩ := Prod.mk.inj hy6
  clear hy6
  subst hz1
  subst hz2
  subst hz3
  subst hz4
  subst hz5
  subst hz6
  subst hz7
  subst hy7
  exact hret _ _ dX8_told_150 rfl
