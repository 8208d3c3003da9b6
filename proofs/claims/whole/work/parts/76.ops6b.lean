/-! letters told -/
theorem n10 : ¬ nI 1 = (0 : Int32) := by decide
theorem p00 : nI 0 = (0 : Int32) := by decide
theorem op_letter : OP_letter theInv := by
  intro rc sz sa mo li lo he pz pn gsz gsa gmo gli glo ghe ri rs gr fm tt co le wa ar hd bn bg bz sd ik is_ isz isa imo ili ilo ihe w_m kn_m kp_m sd_m ks_m bo_m bi_m bk_m ri_m fm_m tt_m le_m wa_m hd_m sx_m b1_m b2_m v1 v2 hI
  obtain ⟨hR, hP, hB, hS, hG⟩ := hI
  have hR0 := hR
  obtain ⟨N, sal, md, L, O, Hd, hO, h2, h3, x, r⟩ := hR
  have hN := hO.2.1
  have hPk := lt_ok md L hN
  have fin : ∃ q A B, fX7_letter sz mo li lo ri rs gr fm tt co le wa ar v1 v2 = some (q, A) ∧ fX8_letter w_m ri_m fm_m tt_m le_m v1 v2 = some (q, B) := by
    obtain ⟨ri', rs', gr', fm', tt', co', le', wa', ar', t1, t2, t3, t4, t5, t6, t7, t8, t9⟩ := trace_n hO h3 x ri rs gr fm tt co le wa ar
    obtain ⟨ri2, fm2, tt2, m1, m2, m3⟩ := lettersM hO h3 r ri_m fm_m tt_m le_m
    rw [fX7_letter, t1, fX8_letter, m1]
    simp only [bd9, bd4, Option.bind_some]
    rw [t7, within_n, in_n]
    simp only [Option.bind_some]
    have hle := hPk.1
    by_cases hc : (0 : Int32) ≤ v1 ∧ v1 ≤ nI (lts N md L).length - 1
    · rw [decide_eq_true hc, bI_t, if_neg n10, if_neg n10]
      have hi : ∃ i, i < (lts N md L).length ∧ v1 = nI i := by
        rw [nI_rI] at hc
        rcases Nat.eq_zero_or_pos (lts N md L).length with hz | hz
        · rw [hz] at hc
          have h5 := hc.1
          have h6 := hc.2
          rw [Int32.le_iff_toInt_le] at h5 h6
          have e0 : (0 : Int32).toInt = 0 := by decide
          have e1 : (rI 0).toInt = -1 := by decide
          omega
        · obtain ⟨n, hn⟩ : ∃ n, (lts N md L).length = n + 1 := ⟨(lts N md L).length - 1, by omega⟩
          rw [hn, rI_s] at hc
          rcases in_or v1 (n := n) (by omega) with ⟨j, hj, e⟩ | hx
          · exact ⟨j, by omega, e⟩
          · rw [decide_eq_true hc] at hx; cases hx
      obtain ⟨i, hi, rfl⟩ := hi
      obtain ⟨ef, et⟩ := arr_i t5 hi
      obtain ⟨ef2, et2⟩ := arr_i m3 hi
      have eco := arc_i t6 hi
      by_cases c : v2 = 0
      · rw [if_pos c, if_pos c, rdI_n (by omega) (by omega), rdI_n (by omega) (by omega), ef, ef2]
        exact ⟨_, _, _, rfl, rfl⟩
      rw [if_neg c, if_neg c]
      by_cases c : v2 = 1
      · rw [if_pos c, if_pos c, rdI_n (by omega) (by omega), rdI_n (by omega) (by omega), et, et2]
        exact ⟨_, _, _, rfl, rfl⟩
      rw [if_neg c, if_neg c]
      by_cases c : v2 = 2
      · rw [if_pos c, if_pos c, rdI_n (by omega) (by omega), comes_n hO r hPk m3 hi, Option.bind_some, Option.bind_some, eco]
        unfold cmB
        cases (O (lA (lts N md L) i)).testBit (lB (lts N md L) i)
        · exact ⟨_, _, _, rfl, rfl⟩
        · exact ⟨_, _, _, rfl, rfl⟩
      rw [if_neg c, if_neg c]
      exact ⟨_, _, _, rfl, rfl⟩
    · rw [decide_eq_false hc, bI_f, if_pos p00, if_pos p00]
      exact ⟨_, _, _, rfl, rfl⟩
  obtain ⟨q, ⟨A0, A1, A2, A3, A4, A5, A6, A7, A8⟩, ⟨B0, B1, B2, B3⟩, f1, f2⟩ := fin
  exact ⟨q, A0, A1, A2, A3, A4, A5, A6, A7, A8, B0, B1, B2, B3, f1, f2, hR0, hP, hB, hS, hG⟩
