/-! the plain calls -/
theorem hasX {N v : Nat} (hN : N ≤ 9) (hv : v < N) : fX3_has (nI N) (nI v) = some 1 := by
  rw [has_node hN, node_yes hv hN]; rfl
theorem hasX0 {N : Nat} {x : Int32} (hN : N ≤ 9) (h : decide ((0 : Int32) ≤ x ∧ x < nI N) = false) : fX3_has (nI N) x = some 0 := by
  rw [has_node hN, h]; rfl
theorem nodeM {N v : Nat} {w : Nat → Int32} (h1 : 1 ≤ N) (hN : N ≤ 9) (hw : w 0 = nI N) (hv : v < N) : fX8_isNode w (nI v) = some 1 := by
  rw [isNode_n h1 hN hw, node_yes hv hN]; rfl
theorem nodeM0 {N : Nat} {w : Nat → Int32} {x : Int32} (h1 : 1 ≤ N) (hN : N ≤ 9) (hw : w 0 = nI N) (h : decide ((0 : Int32) ≤ x ∧ x < nI N) = false) : fX8_isNode w x = some 0 := by
  rw [isNode_n h1 hN hw, h]; rfl
theorem lt31 {N x : Nat} (hN : N ≤ 9) (h : x < 2 ^ N) : x < 2 ^ 31 := Nat.lt_of_lt_of_le h (Nat.pow_le_pow_right (by omega) (by omega))
theorem O_lt {N : Nat} {L O Hd : Nat → Nat} (h : netOK N L O Hd) (u : Nat) : O u < 2 ^ N := by
  apply Nat.lt_of_not_le
  intro hc
  obtain ⟨i, hi, hb⟩ := Nat.exists_ge_and_testBit_of_ge_two_pow hc
  have h2 := h.2.2.2.2.2.2.2.2 u i hb
  rw [Nat.testBit_lt_two_pow (Nat.lt_of_lt_of_le (h.2.2.2.1 u) (Nat.pow_le_pow_right (by omega) hi))] at h2
  cases h2
theorem hasLink_n {N sal md : Nat} {L O Hd : Nat → Nat} {sz sa mo : Int32} {li lo he : Nat → Int32} (h : netOK N L O Hd) (x : netX N sal md L O Hd sz sa mo li lo he) {u v : Nat} (hu : u < N) (hv : v < N) : fX3_hasLink sz li (nI u) (nI v) = some (bI ((L u).testBit v)) := by
  have hN := h.2.1
  have e := (x.2.2.2 u (by omega)).1
  rw [x.1]
  simp (disch := omega) only [zl0, zl1, zl2, zl3, zl6, zl7, zl8, zl9, zl12, zl15, zl16, zl20, zl21, zl30, zl31, zl36, zl510, zl1024, zl65535, zl65536, Option.bind_some, rdI_n, wrI_n, rdL_n, wrL_n, nI_add, nI_leI, nI_ltI, nI_eq, if_pos, if_neg, bI_z, if_true, if_false, reduceCtorEq, eq_self, fX3_hasLink, jn0, hasX hN hu, hasX hN hv, e, isIn_n (lt31 hN (h.2.2.2.1 u)) (show v < 31 by omega)]
  cases (L u).testBit v <;> rfl
theorem hasLost_n {N sal md : Nat} {L O Hd : Nat → Nat} {sz sa mo : Int32} {li lo he : Nat → Int32} (h : netOK N L O Hd) (x : netX N sal md L O Hd sz sa mo li lo he) {u v : Nat} (hu : u < N) (hv : v < N) : fX3_hasLost sz lo (nI u) (nI v) = some (bI ((O u).testBit v)) := by
  have hN := h.2.1
  have e := (x.2.2.2 u (by omega)).2.1
  rw [x.1]
  simp (disch := omega) only [zl0, zl1, zl2, zl3, zl6, zl7, zl8, zl9, zl12, zl15, zl16, zl20, zl21, zl30, zl31, zl36, zl510, zl1024, zl65535, zl65536, Option.bind_some, rdI_n, wrI_n, rdL_n, wrL_n, nI_add, nI_leI, nI_ltI, nI_eq, if_pos, if_neg, bI_z, if_true, if_false, reduceCtorEq, eq_self, fX3_hasLost, jn0, hasX hN hu, hasX hN hv, e, isIn_n (lt31 hN (O_lt h u)) (show v < 31 by omega)]
  cases (O u).testBit v <;> rfl
theorem hasLink_0 {N : Nat} {li : Nat → Int32} (hN : N ≤ 9) {a b : Int32} (h : decide ((0 : Int32) ≤ a ∧ a < nI N) = false ∨ decide ((0 : Int32) ≤ b ∧ b < nI N) = false) : fX3_hasLink (nI N) li a b = some 0 := by
  rcases node_or a hN with ⟨u, hu, rfl⟩ | ha
  · rcases h with h | h
    · rw [node_yes hu hN] at h; cases h
    · simp (disch := omega) only [zl0, zl1, zl2, zl3, zl6, zl7, zl8, zl9, zl12, zl15, zl16, zl20, zl21, zl30, zl31, zl36, zl510, zl1024, zl65535, zl65536, Option.bind_some, rdI_n, wrI_n, rdL_n, wrL_n, nI_add, nI_leI, nI_ltI, nI_eq, if_pos, if_neg, bI_z, if_true, if_false, reduceCtorEq, eq_self, fX3_hasLink, jn0, hasX hN hu, hasX0 hN h]
  · simp (disch := omega) only [zl0, zl1, zl2, zl3, zl6, zl7, zl8, zl9, zl12, zl15, zl16, zl20, zl21, zl30, zl31, zl36, zl510, zl1024, zl65535, zl65536, Option.bind_some, rdI_n, wrI_n, rdL_n, wrL_n, nI_add, nI_leI, nI_ltI, nI_eq, if_pos, if_neg, bI_z, if_true, if_false, reduceCtorEq, eq_self, fX3_hasLink, jn0, hasX0 hN ha]
theorem isLinked_n {N sal md : Nat} {L O Hd : Nat → Nat} {w : Nat → Int32} (h : netOK N L O Hd) (r : rowM N sal md L O Hd w 0) {u v : Nat} (hu : u < N) (hv : v < N) : fX8_isLinked w (nI u) (nI v) = some (bI ((L u).testBit v)) := by
  have hN := h.2.1
  have e := (r.2.2.2 u hu).1
  rw [Nat.zero_add] at e
  simp (disch := omega) only [zl0, zl1, zl2, zl3, zl6, zl7, zl8, zl9, zl12, zl15, zl16, zl20, zl21, zl30, zl31, zl36, zl510, zl1024, zl65535, zl65536, Option.bind_some, rdI_n, wrI_n, rdL_n, wrL_n, nI_add, nI_leI, nI_ltI, nI_eq, if_pos, if_neg, bI_z, if_true, if_false, reduceCtorEq, eq_self, fX8_isLinked, jn0, nodeM h.1 hN r.1 hu, nodeM h.1 hN r.1 hv, e, has_n (lt31 hN (h.2.2.2.1 u)) (show v < 31 by omega)]
  cases (L u).testBit v <;> rfl
theorem isLinked_0 {N : Nat} {w : Nat → Int32} (h1 : 1 ≤ N) (hN : N ≤ 9) (hw : w 0 = nI N) {a b : Int32} (h : decide ((0 : Int32) ≤ a ∧ a < nI N) = false ∨ decide ((0 : Int32) ≤ b ∧ b < nI N) = false) : fX8_isLinked w a b = some 0 := by
  rcases node_or a hN with ⟨u, hu, rfl⟩ | ha
  · rcases h with h | h
    · rw [node_yes hu hN] at h; cases h
    · simp (disch := omega) only [zl0, zl1, zl2, zl3, zl6, zl7, zl8, zl9, zl12, zl15, zl16, zl20, zl21, zl30, zl31, zl36, zl510, zl1024, zl65535, zl65536, Option.bind_some, rdI_n, wrI_n, rdL_n, wrL_n, nI_add, nI_leI, nI_ltI, nI_eq, if_pos, if_neg, bI_z, if_true, if_false, reduceCtorEq, eq_self, fX8_isLinked, jn0, nodeM h1 hN hw hu, nodeM0 h1 hN hw h]
  · simp (disch := omega) only [zl0, zl1, zl2, zl3, zl6, zl7, zl8, zl9, zl12, zl15, zl16, zl20, zl21, zl30, zl31, zl36, zl510, zl1024, zl65535, zl65536, Option.bind_some, rdI_n, wrI_n, rdL_n, wrL_n, nI_add, nI_leI, nI_ltI, nI_eq, if_pos, if_neg, bI_z, if_true, if_false, reduceCtorEq, eq_self, fX8_isLinked, jn0, nodeM0 h1 hN hw ha]
theorem op_seed : OP_seed theInv := by
  intro rc sz sa mo li lo he pz pn gsz gsa gmo gli glo ghe ri rs gr fm tt co le wa ar hd bn bg bz sd ik is_ isz isa imo ili ilo ihe w_m kn_m kp_m sd_m ks_m bo_m bi_m bk_m ri_m fm_m tt_m le_m wa_m hd_m sx_m b1_m b2_m v1 hI
  obtain ⟨hR, hP, hB, hS, hG⟩ := hI
  obtain ⟨rfl, S, hS1, hS2⟩ := hS
  by_cases h : 0 ≤ v1
  · refine ⟨sd, v1, v1, if_pos h, if_pos h, hR, hP, hB, ⟨rfl, ?_⟩, hG⟩
    apply nI_of
    rw [Int32.lt_iff_toInt_lt]
    rw [Int32.le_iff_toInt_le] at h
    omega
  · exact ⟨_, sd, sd, if_neg h, if_neg h, hR, hP, hB, ⟨rfl, S, hS1, hS2⟩, hG⟩
theorem op_tear : OP_tear theInv := by
  intro rc sz sa mo li lo he pz pn gsz gsa gmo gli glo ghe ri rs gr fm tt co le wa ar hd bn bg bz sd ik is_ isz isa imo ili ilo ihe w_m kn_m kp_m sd_m ks_m bo_m bi_m bk_m ri_m fm_m tt_m le_m wa_m hd_m sx_m b1_m b2_m hI
  obtain ⟨hR, hP, hB, hS, hG⟩ := hI
  obtain ⟨B, hB1, rfl, rfl, hB2⟩ := hB
  exact ⟨nI B, 0, 0, rfl, rfl, hR, hP, ⟨0, by omega, rfl, rfl, fun i hi => absurd hi (by omega)⟩, hS, hG⟩
theorem op_write : OP_write theInv := by
  intro rc sz sa mo li lo he pz pn gsz gsa gmo gli glo ghe ri rs gr fm tt co le wa ar hd bn bg bz sd ik is_ isz isa imo ili ilo ihe w_m kn_m kp_m sd_m ks_m bo_m bi_m bk_m ri_m fm_m tt_m le_m wa_m hd_m sx_m b1_m b2_m v1 v2 hI
  obtain ⟨hR, hP, hB, hS, hG⟩ := hI
  have hR0 := hR
  obtain ⟨N, sal, md, L, O, Hd, hO, h2, h3, x, r⟩ := hR
  have hN := hO.2.1
  obtain ⟨B, hB1, rfl, rfl, hB2⟩ := hB
  have ex := x.1
  subst ex
  rcases node_or v1 hN with ⟨u, hu, rfl⟩ | hn
  · rcases Nat.lt_or_ge B 20 with hb | hb
    · refine ⟨nI (B + 1), upd bn B (nI u), upd bg B v2, nI (B + 1), upd bo_m B (nI u), upd bi_m B v2, nI (B + 1), ?_, ?_, hR0, hP, ⟨B + 1, by omega, rfl, rfl, fun i hi => ?_⟩, hS, hG⟩
      · rw [fX7_write, hasX hN hu, Option.bind_some, if_neg (by decide), if_pos (show nI B < (20 : Int32) from nI_lt (a := B) (b := 20) hb (by omega)), fX0_enter, if_pos (show nI B < (20 : Int32) from nI_lt (a := B) (b := 20) hb (by omega)), wrI_n hb (by omega), Option.bind_some, wrI_n hb (by omega), Option.bind_some, nI_1]
        rfl
      · rw [fX8_write, nodeM hO.1 hN r.1 hu, Option.bind_some, if_neg (by decide), if_neg (show ¬ nI B = (20 : Int32) from fun h => by have := (nI_eq (a := B) (b := 20) (by omega) (by omega)).mp h; omega), wrI_n hb (by omega), Option.bind_some, wrI_n hb (by omega), Option.bind_some, nI_1]
      · by_cases hi2 : i = B
        · subst hi2
          rw [pk_us, pk_us, pk_us, pk_us]
          exact ⟨rfl, rfl, u, by omega, rfl⟩
        · rw [pk_un hi2, pk_un hi2, pk_un hi2, pk_un hi2]
          exact hB2 i (by omega)
    · have e : B = 20 := by omega
      subst e
      refine ⟨(-1000000004 : Int32), bn, bg, nI 20, bo_m, bi_m, nI 20, ?_, ?_, hR0, hP, ⟨20, hB1, rfl, rfl, hB2⟩, hS, hG⟩
      · rw [fX7_write, hasX hN hu, Option.bind_some, if_neg (by decide), if_neg (by decide)]
      · rw [fX8_write, nodeM hO.1 hN r.1 hu, Option.bind_some, if_neg (by decide), if_pos (by decide)]
  · refine ⟨(-1000000001 : Int32), bn, bg, nI B, bo_m, bi_m, nI B, ?_, ?_, hR0, hP, ⟨B, hB1, rfl, rfl, hB2⟩, hS, hG⟩
    · rw [fX7_write, hasX0 hN hn, Option.bind_some, if_pos rfl]
    · rw [fX8_write, nodeM0 hO.1 hN r.1 hn, Option.bind_some, if_pos rfl]
theorem op_isLost : OP_isLost theInv := by
  intro rc sz sa mo li lo he pz pn gsz gsa gmo gli glo ghe ri rs gr fm tt co le wa ar hd bn bg bz sd ik is_ isz isa imo ili ilo ihe w_m kn_m kp_m sd_m ks_m bo_m bi_m bk_m ri_m fm_m tt_m le_m wa_m hd_m sx_m b1_m b2_m v1 v2 hI
  obtain ⟨hR, hP, hB, hS, hG⟩ := hI
  have hR0 := hR
  obtain ⟨N, sal, md, L, O, Hd, hO, h2, h3, x, r⟩ := hR
  have hN := hO.2.1
  have key : ∀ (h : decide ((0 : Int32) ≤ v1 ∧ v1 < nI N) = false ∨ decide ((0 : Int32) ≤ v2 ∧ v2 < nI N) = false), ∃ q : Int32, fX7_isLost sz li lo v1 v2 = some q ∧ fX8_isLost w_m v1 v2 = some q := fun h => by
    refine ⟨-1000000001, ?_, ?_⟩
    · rw [fX7_isLost, x.1, hasLink_0 hN h, Option.bind_some, if_pos rfl]
    · rw [fX8_isLost, isLinked_0 hO.1 hN r.1 h, Option.bind_some, if_pos rfl]
  have fin : ∃ q : Int32, fX7_isLost sz li lo v1 v2 = some q ∧ fX8_isLost w_m v1 v2 = some q := by
    rcases node_or v1 hN with ⟨u, hu, rfl⟩ | hn
    · rcases node_or v2 hN with ⟨v, hv, rfl⟩ | hn2
      · refine ⟨if (L u).testBit v then bI ((O u).testBit v) else -1000000001, ?_, ?_⟩
        · rw [fX7_isLost, hasLink_n hO x hu hv, Option.bind_some]
          cases (L u).testBit v
          · rfl
          · rw [if_neg (by decide), hasLost_n hO x hu hv, Option.bind_some]
            cases (O u).testBit v <;> rfl
        · have e := (r.2.2.2 u hu).2.1
          rw [Nat.zero_add] at e
          rw [fX8_isLost, isLinked_n hO r hu hv, Option.bind_some]
          cases (L u).testBit v
          · rfl
          · rw [if_neg (by decide), show (12 : Int32) = nI 12 from rfl, nI_add, rdI_n (by omega) (by omega), Option.bind_some, e, has_n (lt31 hN (O_lt hO u)) (by omega), Option.bind_some]
            cases (O u).testBit v <;> rfl
      · exact key (Or.inr hn2)
    · exact key (Or.inl hn)
  obtain ⟨q, f1, f2⟩ := fin
  exact ⟨q, f1, f2, hR0, hP, hB, hS, hG⟩
