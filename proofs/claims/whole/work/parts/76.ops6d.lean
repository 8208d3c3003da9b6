/-! drift -/
theorem op_drift : OP_drift theInv := by
  intro rc sz sa mo li lo he pz pn gsz gsa gmo gli glo ghe ri rs gr fm tt co le wa ar hd bn bg bz sd ik is_ isz isa imo ili ilo ihe w_m kn_m kp_m sd_m ks_m bo_m bi_m bk_m ri_m fm_m tt_m le_m wa_m hd_m sx_m b1_m b2_m v1 hI
  obtain ⟨hR, hP, hB, hS, hG⟩ := hI
  rcases in_ab v1 (a := 1) (n := 12) (by omega) (by omega) with ⟨j, hj1, hj2, rfl⟩ | hn
  · obtain ⟨he1, pz1, pn1, gsz1, gsa1, gmo1, gli1, glo1, ghe1, sd1, w1, kn1, sdm1, f1, f2, f3, f4, f5, f6⟩ := driftL j 0 300 j he pz pn gsz gsa gmo gli glo ghe sd w_m kn_m sd_m (by omega) hj2 (by omega) hR hP hS
    have hR1 := f3
    obtain ⟨N, sal, md, L, O, Hd, hO, h2, h3, x, r⟩ := f3
    obtain ⟨ri', rs', gr', fm', tt', co', le', wa', ar', t1, t2, t3⟩ := trace_n hO h3 x ri rs gr fm tt co le wa ar
    obtain ⟨ri2, m1⟩ := truth_n hO r ri_m
    refine ⟨nI (pc 16 (thK N L Hd N)), he1, pz1, pn1, gsz1, gsa1, gmo1, gli1, glo1, ghe1, sd1, ri', rs', gr', fm', tt', co', le', wa', ar', w1, kn1, sdm1, ri2, ?_, ?_, hR1, f4, hB, f5, img_w hG f6⟩
    · have f1' : fX7_drift_L15 sz sa mo li lo (nI j) 300 0 he pz pn gsz gsa gmo gli glo ghe sd = some (he1, pz1, pn1, gsz1, gsa1, gmo1, gli1, glo1, ghe1, sd1) := f1
      rw [fX7_drift, within_n, Option.bind_some, zl1, show (12 : Int32) = nI 12 from rfl, ab_yes hj1 hj2 (by omega), bI_t, if_neg (by decide), f1']
      simp only [bd10, Option.bind_some]
      rw [t1]
      simp only [bd9, Option.bind_some]
      rw [x.1, true_n hO t2 (fun v hv => (x.2.2.2 v hv).2.2), Option.bind_some]
    · have f2' : fX8_drift_L15 (nI j) 300 0 w_m kn_m sd_m = some (w1, kn1, sdm1) := f2
      rw [fX8_drift, in_n, Option.bind_some, zl1, show (12 : Int32) = nI 12 from rfl, ab_yes hj1 hj2 (by omega), bI_t, if_neg (by decide), f2']
      simp only [bd3, Option.bind_some]
      rw [m1]
      rfl
  · refine ⟨(-1000000002 : Int32), he, pz, pn, gsz, gsa, gmo, gli, glo, ghe, sd, ri, rs, gr, fm, tt, co, le, wa, ar, w_m, kn_m, sd_m, ri_m, ?_, ?_, hR, hP, hB, hS, hG⟩
    · rw [fX7_drift, within_n, Option.bind_some, zl1, show (12 : Int32) = nI 12 from rfl, hn, bI_f, if_pos (by decide)]
    · rw [fX8_drift, in_n, Option.bind_some, zl1, show (12 : Int32) = nI 12 from rfl, hn, bI_f, if_pos (by decide)]
