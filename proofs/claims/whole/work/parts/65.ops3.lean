/-! undone, kept, gone back to -/
theorem become_rel {sz sa mo : Int32} {li lo he li2 lo2 he2 w : Nat → Int32} {b : Nat} (h : rel sz sa mo li lo he w b) : rel sz sa mo (va_cpy li li2 0 0 9) (va_cpy lo lo2 0 0 9) (va_cpy he he2 0 0 9) w b := rel_x h (fun v hv => ⟨cpy9 _ _ hv, cpy9 _ _ hv, cpy9 _ _ hv⟩)
theorem op_undo : OP_undo theInv := by
  intro rc sz sa mo li lo he pz pn gsz gsa gmo gli glo ghe ri rs gr fm tt co le wa ar hd bn bg bz sd ik is_ isz isa imo ili ilo ihe w_m kn_m kp_m sd_m ks_m bo_m bi_m bk_m ri_m fm_m tt_m le_m wa_m hd_m sx_m b1_m b2_m v1 hI
  obtain ⟨hR, hP, hB, hS, hG⟩ := hI
  obtain ⟨K, P, hK, hP16, rfl, rfl, rfl, hj⟩ := hP
  rcases in_ab v1 (a := 1) (n := 16) (by omega) (by omega) with ⟨j, hj1, hj2, rfl⟩ | hn
  · rcases Nat.lt_or_ge K j with hk | hk
    · refine ⟨(-1000000003 : Int32), sz, sa, mo, li, lo, he, nI K, nI P, w_m, nI K, ?_, ?_, hR, ⟨K, P, hK, hP16, rfl, rfl, rfl, hj⟩, hB, hS, hG⟩
      · rw [fX7_undo, within_n, Option.bind_some, zl1, zl16, ab_yes hj1 hj2 (by omega), bI_t, if_neg (by decide), if_neg (nI_ge hk (by omega))]
      · rw [fX8_undo, in_n, Option.bind_some, zl1, zl16, ab_yes hj1 hj2 (by omega), bI_t, if_neg (by decide), if_neg (nI_ge hk (by omega))]
    · have e3 : (nI P + nI 16 - nI j) - (nI P + nI 16 - nI j) / nI 16 * nI 16 = nI ((P + 16 - j) % 16) := by
        rw [nI_add, pk_sub (by omega), pk_rem (by omega) (by omega) (by omega)]
      refine ⟨nI (K - j), gsz ((P + 16 - j) % 16), gsa ((P + 16 - j) % 16), gmo ((P + 16 - j) % 16), va_cpy (gli ((P + 16 - j) % 16)) li 0 0 9, va_cpy (glo ((P + 16 - j) % 16)) lo 0 0 9, va_cpy (ghe ((P + 16 - j) % 16)) he 0 0 9, nI (K - j), nI ((P + 16 - j) % 16), cpK w_m (30 * (K - j + 1)) 0 30, nI (K - j), ?_, ?_, ?_, ⟨K - j, (P + 16 - j) % 16, by omega, by omega, rfl, rfl, rfl, fun i hi => ?_⟩, hB, hS, img_w hG (fun k hk => cp_out (by omega))⟩
      · rw [fX7_undo, within_n, Option.bind_some, zl1, zl16, ab_yes hj1 hj2 (by omega), bI_t, if_neg (by decide), if_pos (nI_le hk (by omega)), fX4_restore, zl1, if_neg (nI_nlt (a := j) (b := 1) hj1 (by omega)), if_pos (nI_le hk (by omega)), zl16, e3, ixN_n (by omega) (by omega), Option.bind_some, pk_sub hk]
        rfl
      · rw [fX8_undo, in_n, Option.bind_some, zl1, zl16, ab_yes hj1 hj2 (by omega), bI_t, if_neg (by decide), if_pos (nI_le hk (by omega)), pk_sub hk, nI_add, zl30, pk_mul, zl0, copyRow_n (by omega) (by omega) (by omega), Option.bind_some]
      · have hr := hj (j - 1) (by omega)
        have e4 : (P + 15 - (j - 1)) % 16 = (P + 16 - j) % 16 := by omega
        have e5 : 30 * (K - (j - 1)) = 30 * (K - j + 1) := by omega
        rw [e4, e5] at hr
        refine become_rel (rel_w hr (fun k hk => ?_))
        rw [cp_in hk]
      · have hr := hj (i + j) (by omega)
        have e4 : (P + 15 - (i + j)) % 16 = ((P + 16 - j) % 16 + 15 - i) % 16 := by omega
        have e5 : 30 * (K - (i + j)) = 30 * (K - j - i) := by omega
        rw [e4, e5] at hr
        exact rel_w hr (fun k hk => cp_out (by omega))
  · refine ⟨(-1000000002 : Int32), sz, sa, mo, li, lo, he, nI K, nI P, w_m, nI K, ?_, ?_, hR, ⟨K, P, hK, hP16, rfl, rfl, rfl, hj⟩, hB, hS, hG⟩
    · rw [fX7_undo, within_n, Option.bind_some, zl1, zl16, hn, bI_f, if_pos (by decide)]
    · rw [fX8_undo, in_n, Option.bind_some, zl1, zl16, hn, bI_f, if_pos (by decide)]
theorem op_keep : OP_keep theInv := by
  intro rc sz sa mo li lo he pz pn gsz gsa gmo gli glo ghe ri rs gr fm tt co le wa ar hd bn bg bz sd ik is_ isz isa imo ili ilo ihe w_m kn_m kp_m sd_m ks_m bo_m bi_m bk_m ri_m fm_m tt_m le_m wa_m hd_m sx_m b1_m b2_m v1 hI
  obtain ⟨hR, hP, hB, hS, hG⟩ := hI
  obtain ⟨K, P, hK, hP16, rfl, rfl, rfl, hj⟩ := hP
  rcases in_or v1 (n := 1) (by omega) with ⟨j, hj1, rfl⟩ | hn
  · obtain ⟨q, hq, rfl, hi⟩ := hG
    refine ⟨1, 0, upd ik j 1, upd is_ j sd, upd isz j sz, upd isa j sa, upd imo j mo, va_up ili j (va_cpy li (ili j) 0 0 9), va_up ilo j (va_cpy lo (ilo j) 0 0 9), va_up ihe j (va_cpy he (ihe j) 0 0 9), cpK w_m 0 (510 + 30 * j) 30, 0, nI (q ||| 2 ^ j), upd ks_m j sd_m, ?_, ?_, rel_w hR (fun k hk => cp_out (by omega)), ⟨0, P, by omega, hP16, rfl, rfl, rfl, fun i hi => absurd hi (by omega)⟩, hB, hS, ⟨q ||| 2 ^ j, ?_, rfl, fun i hi2 => ?_⟩⟩
    · rw [fX7_keep, within_n, Option.bind_some, zl1, in_yes hj1 (by omega), bI_t, if_neg (by decide), ixN_n (by omega) (by omega)]
      rfl
    · rw [fX8_keep, in_n, Option.bind_some, zl1, in_yes hj1 (by omega), bI_t, if_neg (by decide), zl30, pk_mul, zl510, nI_add, zl0, copyRow_n (by omega) (by omega) (by omega), Option.bind_some, wrI_n (by omega) (by omega), Option.bind_some, ← zl1, shl_1 (by omega), fa_or]
    · have : 2 ^ j < 2 ^ 2 := Nat.pow_lt_pow_right (by omega) (by omega)
      exact Nat.or_lt_two_pow (n := 2) hq this
    · rw [fb_bit_set]
      by_cases e : i = j
      · subst e
        rw [pk_us, pk_us, pk_us, pk_us, pk_us, pk_us, va_up_self, va_up_self, va_up_self]
        refine ⟨by rw [decide_eq_true rfl, Bool.or_true]; rfl, fun _ => ⟨hS, become_rel (rel_w hR (fun k hk => ?_))⟩⟩
        rw [cp_in hk]
      · rw [pk_un e, pk_un e, pk_un e, pk_un e, pk_un e, pk_un e, va_up_ne _ _ e, va_up_ne _ _ e, va_up_ne _ _ e, decide_eq_false e, Bool.or_false]
        refine ⟨(hi i hi2).1, fun h => ⟨((hi i hi2).2 h).1, rel_w ((hi i hi2).2 h).2 (fun k hk => cp_out (by omega))⟩⟩
  · refine ⟨(-1000000001 : Int32), nI K, ik, is_, isz, isa, imo, ili, ilo, ihe, w_m, nI K, kp_m, ks_m, ?_, ?_, hR, ⟨K, P, hK, hP16, rfl, rfl, rfl, hj⟩, hB, hS, hG⟩
    · rw [fX7_keep, within_n, Option.bind_some, zl1, hn, bI_f, if_pos (by decide)]
    · rw [fX8_keep, in_n, Option.bind_some, zl1, hn, bI_f, if_pos (by decide)]
theorem op_goBack : OP_goBack theInv := by
  intro rc sz sa mo li lo he pz pn gsz gsa gmo gli glo ghe ri rs gr fm tt co le wa ar hd bn bg bz sd ik is_ isz isa imo ili ilo ihe w_m kn_m kp_m sd_m ks_m bo_m bi_m bk_m ri_m fm_m tt_m le_m wa_m hd_m sx_m b1_m b2_m v1 hI
  obtain ⟨hR, hP, hB, hS, hG⟩ := hI
  obtain ⟨K, P, hK, hP16, rfl, rfl, rfl, hj⟩ := hP
  rcases in_or v1 (n := 1) (by omega) with ⟨j, hj1, rfl⟩ | hn
  · have hG0 := hG
    obtain ⟨q, hq, rfl, hi⟩ := hG
    have e1 := (hi j (by omega)).1
    have e2 : nI q >>> (nI j &&& 31) &&& 1 = bI (q.testBit j) := bit_n (by omega) (by omega)
    cases ht : q.testBit j
    · rw [ht] at e1 e2
      refine ⟨(-1000000003 : Int32), sz, sa, mo, li, lo, he, nI K, sd, w_m, nI K, sd_m, ?_, ?_, hR, ⟨K, P, hK, hP16, rfl, rfl, rfl, hj⟩, hB, hS, hG0⟩
      · rw [fX7_goBack, within_n, Option.bind_some, zl1, in_yes hj1 (by omega), bI_t, if_neg (by decide), ixN_n (by omega) (by omega), Option.bind_some, e1, if_pos (by decide)]
      · rw [fX8_goBack, in_n, Option.bind_some, zl1, in_yes hj1 (by omega), bI_t, if_neg (by decide), ← zl1, e2, if_pos (by decide)]
    · rw [ht] at e1 e2
      obtain ⟨s1, s2⟩ := (hi j (by omega)).2 ht
      refine ⟨1, isz j, isa j, imo j, va_cpy (ili j) li 0 0 9, va_cpy (ilo j) lo 0 0 9, va_cpy (ihe j) he 0 0 9, 0, is_ j, cpK w_m (510 + 30 * j) 0 30, 0, ks_m j, ?_, ?_, become_rel (rel_w s2 (fun k hk => ?_)), ⟨0, P, by omega, hP16, rfl, rfl, rfl, fun i hi => absurd hi (by omega)⟩, hB, s1, img_w hG0 (fun k hk => cp_out (by omega))⟩
      · rw [fX7_goBack, within_n, Option.bind_some, zl1, in_yes hj1 (by omega), bI_t, if_neg (by decide), ixN_n (by omega) (by omega), Option.bind_some, e1, if_neg (by decide)]
        rfl
      · rw [fX8_goBack, in_n, Option.bind_some, zl1, in_yes hj1 (by omega), bI_t, if_neg (by decide), ← zl1, e2, if_neg (by decide), zl30, pk_mul, zl510, nI_add, zl0, copyRow_n (by omega) (by omega) (by omega), Option.bind_some, rdI_n (by omega) (by omega), Option.bind_some]
      · rw [cp_in hk]
  · refine ⟨(-1000000001 : Int32), sz, sa, mo, li, lo, he, nI K, sd, w_m, nI K, sd_m, ?_, ?_, hR, ⟨K, P, hK, hP16, rfl, rfl, rfl, hj⟩, hB, hS, hG⟩
    · rw [fX7_goBack, within_n, Option.bind_some, zl1, hn, bI_f, if_pos (by decide)]
    · rw [fX8_goBack, in_n, Option.bind_some, zl1, hn, bI_f, if_pos (by decide)]
