/-! what is told at a node, a letter -/
theorem op_at : OP_at theInv := by
  intro rc sz sa mo li lo he pz pn gsz gsa gmo gli glo ghe ri rs gr fm tt co le wa ar hd bn bg bz sd ik is_ isz isa imo ili ilo ihe w_m kn_m kp_m sd_m ks_m bo_m bi_m bk_m ri_m fm_m tt_m le_m wa_m hd_m sx_m b1_m b2_m v1 v2 hI
  obtain ⟨hR, hP, hB, hS, hG⟩ := hI
  have hR0 := hR
  obtain ⟨N, sal, md, L, O, Hd, hO, h2, h3, x, r⟩ := hR
  have hN := hO.2.1
  have ex := x.1
  subst ex
  have fin : ∃ q A B, fX7_at (nI N) mo li lo he ri rs gr fm tt co le wa ar v1 v2 = some (q, A) ∧ fX8_at w_m ri_m fm_m tt_m le_m wa_m v1 v2 = some (q, B) := by
    rcases node_or v1 hN with ⟨u, hu, rfl⟩ | hn
    · obtain ⟨ri', rs', gr', fm', tt', co', le', wa', ar', t1, t2, t3, t4, t5, t6, t7, t8, t9⟩ := trace_n hO h3 x ri rs gr fm tt co le wa ar
      obtain ⟨ri2, fm2, tt2, wa2, m1, m2, m3, m4⟩ := waysM hO h3 r ri_m fm_m tt_m le_m wa_m
      obtain ⟨ri3, fm3, tt3, le3, l1⟩ := lettersTo_n hO h3 r ri2 fm2 tt2 (nI (lts N md L).length) hu
      have e1 : w_m (3 + u) = nI (L u) := by
        have := (r.2.2.2 u hu).1
        rw [Nat.zero_add] at this
        exact this
      have e3 : w_m (21 + u) = nI (Hd u) := by
        have := (r.2.2.2 u hu).2.2
        rw [Nat.zero_add] at this
        exact this
      rw [fX7_at, hasX hN hu, Option.bind_some, if_neg (by decide), t1, fX8_at, nodeM hO.1 hN r.1 hu]
      simp only [bd9, Option.bind_some]
      rw [if_neg (show ¬ (1 : Int32) = 0 by decide), m1]
      simp only [bd5, Option.bind_some]
      by_cases c : v2 = 0
      · rw [if_pos c, if_pos c, rdI_n (by omega) (by omega), rdI_n (by omega) (by omega), t2 u (by omega), m2 u (by omega)]
        exact ⟨_, _, _, rfl, rfl⟩
      rw [if_neg c, if_neg c]
      by_cases c : v2 = 1
      · rw [if_pos c, if_pos c, rdI_n (by omega) (by omega), zl3, nI_add, rdI_n (by omega) (by omega), (x.2.2.2 u (by omega)).1, e1]
        exact ⟨_, _, _, rfl, rfl⟩
      rw [if_neg c, if_neg c]
      by_cases c : v2 = 2
      · rw [if_pos c, if_pos c, uppers_n hO t2 t3 (fun v hv => (x.2.2.2 v hv).1) (by omega), upper_n hO r m2 hu]
        exact ⟨_, _, _, rfl, rfl⟩
      rw [if_neg c, if_neg c]
      by_cases c : v2 = 3
      · rw [if_pos c, if_pos c, rdI_n (by omega) (by omega), zl21, nI_add, rdI_n (by omega) (by omega), (x.2.2.2 u (by omega)).2.2, e3]
        exact ⟨_, _, _, rfl, rfl⟩
      rw [if_neg c, if_neg c]
      by_cases c : v2 = 4
      · rw [if_pos c, if_pos c, rdI_n (by omega) (by omega), rdI_n (by omega) (by omega), t8 u (by omega), m4 u (by omega)]
        exact ⟨_, _, _, rfl, rfl⟩
      rw [if_neg c, if_neg c]
      by_cases c : v2 = 5
      · rw [if_pos c, if_pos c, rdI_n (by omega) (by omega), t9 u (by omega), l1]
        exact ⟨_, _, _, rfl, rfl⟩
      rw [if_neg c, if_neg c]
      exact ⟨_, _, _, rfl, rfl⟩
    · rw [fX7_at, hasX0 hN hn, fX8_at, nodeM0 hO.1 hN r.1 hn]
      exact ⟨_, _, _, rfl, rfl⟩
  obtain ⟨q, ⟨A0, A1, A2, A3, A4, A5, A6, A7, A8⟩, ⟨B0, B1, B2, B3, B4⟩, f1, f2⟩ := fin
  exact ⟨q, A0, A1, A2, A3, A4, A5, A6, A7, A8, B0, B1, B2, B3, B4, f1, f2, hR0, hP, hB, hS, hG⟩
