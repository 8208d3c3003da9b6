/-! what is sent; the book; what is told -/
theorem in_len {n : Nat} (hn : n ≤ 36) {v : Int32} (hc : (0 : Int32) ≤ v ∧ v ≤ nI n - 1) : ∃ i, i < n ∧ v = nI i := by
  rw [nI_rI] at hc
  rcases Nat.eq_zero_or_pos n with hz | hz
  · rw [hz] at hc
    have h5 := hc.1
    have h6 := hc.2
    rw [fa_le] at h5 h6
    have e0 : (0 : Int32).toInt = 0 := by decide
    have e1 : (rI 0).toInt = -1 := by decide
    omega
  · obtain ⟨m, hm⟩ : ∃ m, n = m + 1 := ⟨n - 1, by omega⟩
    rw [hm, rI_s] at hc
    rcases in_or v (n := m) (by omega) with ⟨j, hj, e⟩ | hx
    · exact ⟨j, by omega, e⟩
    · rw [decide_eq_true hc] at hx; cases hx
theorem op_sent : OP_sent theInv := by
  intro rc sz sa mo li lo he pz pn gsz gsa gmo gli glo ghe ri rs gr fm tt co le wa ar hd bn bg bz sd ik is_ isz isa imo ili ilo ihe w_m kn_m kp_m sd_m ks_m bo_m bi_m bk_m ri_m fm_m tt_m le_m wa_m hd_m sx_m b1_m b2_m v1 v2 hI
  obtain ⟨hR, hP, hB, hS, hG⟩ := hI
  have hR0 := hR
  obtain ⟨N, sal, md, L, O, Hd, hO, h2, h3, x, r⟩ := hR
  have hN := hO.2.1
  have hPk := lt_ok md L hN
  have fin : ∃ q A B, fX7_sent sz sa mo li lo he ri rs gr fm tt co le wa ar hd v1 v2 = some (q, A) ∧ fX8_sent w_m ri_m fm_m tt_m le_m hd_m sx_m v1 v2 = some (q, B) := by
    obtain ⟨ri', rs', gr', fm', tt', co', le', wa', ar', t1, t2, t3, t4, t5, t6, t7, t8, t9⟩ := trace_n hO h3 x ri rs gr fm tt co le wa ar
    obtain ⟨ri2, fm2, tt2, m1, m2, m3⟩ := lettersM hO h3 r ri_m fm_m tt_m le_m
    have ex := x.1
    have ex2 := x.2.1
    subst ex ex2
    have hle := hPk.1
    rw [fX7_sent, t1, fX8_sent, m1]
    simp only [bd9, bd4, Option.bind_some]
    rw [t7, within_n, in_n]
    simp only [Option.bind_some]
    by_cases hc : (0 : Int32) ≤ v1 ∧ v1 ≤ nI (lts N md L).length - 1
    · obtain ⟨i, hi, rfl⟩ := in_len hle hc
      rw [decide_eq_true hc, bI_t, if_neg n10, if_neg n10, within_n, in_n]
      simp only [Option.bind_some]
      rcases in_or v2 (n := 3) (by omega) with ⟨k, hk, rfl⟩ | hn
      · obtain ⟨X, M, ri3, fm3, tt3, sx3, e1, e2, e3, e4, e5⟩ := held_n (k := k) hO h2 h3 r (by omega) t2 (fun v hv => (x.2.2.2 v hv).2.2) t5 t6 hd ri2 fm2 tt2 (nI (lts N md L).length) hd_m sx_m
        obtain ⟨g1, g2, g3, g4⟩ := hPk.2 i hi
        obtain ⟨ef, et⟩ := arr_i t5 hi
        obtain ⟨ef2, et2⟩ := arr_i e4 hi
        obtain ⟨k1, _⟩ := (e5 _ g1).2 (by omega)
        rw [zl3, in_yes hk (by omega), bI_t, if_neg n10, if_neg n10, e1, e2]
        simp only [bd6, Option.bind_some]
        rw [rdI_n (by omega) (by omega), rdI_n (by omega) (by omega), ef, ef2]
        simp only [Option.bind_some]
        rw [rdL_n (by omega) (by omega), rdL_n (by omega) (by omega), k1]
        exact ⟨_, _, _, rfl, rfl⟩
      · rw [zl3, hn, bI_f, if_pos p00, if_pos p00]
        exact ⟨_, _, _, rfl, rfl⟩
    · rw [decide_eq_false hc, bI_f, if_pos p00, if_pos p00]
      exact ⟨_, _, _, rfl, rfl⟩
  obtain ⟨q, ⟨A0, A1, A2, A3, A4, A5, A6, A7, A8, A9⟩, ⟨B0, B1, B2, B3, B4, B5⟩, f1, f2⟩ := fin
  exact ⟨q, A0, A1, A2, A3, A4, A5, A6, A7, A8, A9, B0, B1, B2, B3, B4, B5, f1, f2, hR0, hP, hB, hS, hG⟩
theorem wrongL {N sal md : Nat} {L O Hd : Nat → Nat} {w ri fm tt co he : Nat → Int32} (hO : netOK N L O Hd) (hs : sal < 65536) (hm : md < 2) (rw_ : rowM N sal md L O Hd w 0) (h1 : ∀ j, j < 9 → ri j = rI (rvK N L 9 j)) (hh : ∀ v, v < 9 → he v = nI (Hd v)) (ha : arr (lts N md L) fm tt) (hc : arc O (lts N md L) co) (hd : Nat → Int64) {X : Nat → Int64} (hX : fX6_gather ri fm tt co (nI (lts N md L).length) hd (nI N) (nI sal) he (nI 1) = some X) {bn bg bo bi : Nat → Int32} {Z : Nat} (hZ : Z ≤ 20) (hb : ∀ i, i < Z → bn i = bo i ∧ bg i = bi i ∧ ∃ v, v < 9 ∧ bn i = nI v) : ∀ (t i n : Nat) (rim fmm ttm : Nat → Int32) (lem : Int32) (hdm : Nat → Int64) (sxm : Nat → Int32), i + t = Z → t < n → (∃ q B, fX7_firstWrong_L14 (nI N) ri X bn bg (nI Z) n (nI i) = some (.inl q) ∧ fX8_wrongEntry_L2 w bo bi (nI Z) n (nI i) rim fmm ttm lem hdm sxm = some (.inl (q, B))) ∨ (∃ B, fX7_firstWrong_L14 (nI N) ri X bn bg (nI Z) n (nI i) = some (.inr ()) ∧ fX8_wrongEntry_L2 w bo bi (nI Z) n (nI i) rim fmm ttm lem hdm sxm = some (.inr B)) := by
  have hN := hO.2.1
  intro t
  induction t with
  | zero =>
    intro i n rim fmm ttm lem hdm sxm hi hn
    obtain ⟨n, rfl⟩ : ∃ z, n = z + 1 := ⟨n - 1, by omega⟩
    right
    rw [fX7_firstWrong_L14, fX8_wrongEntry_L2, if_pos (nI_le (by omega) (by omega)), if_pos (nI_le (by omega) (by omega))]
    exact ⟨_, rfl, rfl⟩
  | succ t ih =>
    intro i n rim fmm ttm lem hdm sxm hi hn
    obtain ⟨n, rfl⟩ : ∃ z, n = z + 1 := ⟨n - 1, by omega⟩
    obtain ⟨q1, q2, v, hv, q3⟩ := hb i (by omega)
    have q1' : bo i = nI v := by rw [← q1]; exact q3
    obtain ⟨ri2, m1, m2⟩ := layM hO rw_ rim
    rw [fX7_firstWrong_L14, fX8_wrongEntry_L2, if_neg (nI_ge (by omega) (by omega)), if_neg (nI_ge (by omega) (by omega)), m1, rdI_n (f := bn) (by omega) (by omega), rdI_n (f := bo) (by omega) (by omega)]
    simp only [Option.bind_some]
    rw [q3, q1']
    rcases node_or (nI v) hN with ⟨u, hu, e⟩ | hn2
    · have e' : v = u := (nI_eq (by omega) (by omega)).mp e
      subst e'
      rw [hasX hN hu, nodeM hO.1 hN rw_.1 hu]
      simp only [Option.bind_some]
      rw [if_neg (by decide), if_neg (by decide), rdI_n (f := ri) (by omega) (by omega), rdI_n (f := ri2) (by omega) (by omega)]
      simp only [Option.bind_some]
      rw [h1 v hv, m2 v hv]
      have h9 := rv_le N L v 9
      by_cases e : rvK N L 9 v = 0
      · rw [if_pos ((rI_z (by omega)).mpr e), if_pos ((rI_z (by omega)).mpr e)]
        left
        exact ⟨_, _, rfl, rfl⟩
      · rw [if_neg (fun c => e ((rI_z (by omega)).mp c)), if_neg (fun c => e ((rI_z (by omega)).mp c))]
        obtain ⟨G, ⟨B1, B2, B3, B4, B5, B6⟩, b1, b2⟩ := byBits_n hO hs hm rw_ h1 hh ha hc hd ri2 fmm ttm lem hdm sxm hX hu e
        rw [zl1, guessOf_n h1 hv (Or.inl rfl) e (G := G) (by rw [if_pos rfl]; exact b1), b2]
        simp only [bd7, Option.bind_some]
        rw [rdI_n (f := bg) (by omega) (by omega), rdI_n (f := bi) (by omega) (by omega), ← q2]
        simp only [Option.bind_some]
        by_cases eg : G = bg i
        · rw [if_pos eg, if_pos eg, nI_add]
          exact ih (i + 1) n _ _ _ _ _ _ (by omega) (by omega)
        · rw [if_neg eg, if_neg eg]
          left
          exact ⟨_, _, rfl, rfl⟩
    · rw [hasX0 hN hn2, nodeM0 hO.1 hN rw_.1 hn2]
      simp only [Option.bind_some]
      rw [if_pos trivial, if_pos trivial]
      left
      exact ⟨_, _, rfl, rfl⟩
theorem op_told : OP_told theInv := by
  intro rc sz sa mo li lo he pz pn gsz gsa gmo gli glo ghe ri rs gr fm tt co le wa ar hd bn bg bz sd ik is_ isz isa imo ili ilo ihe w_m kn_m kp_m sd_m ks_m bo_m bi_m bk_m ri_m fm_m tt_m le_m wa_m hd_m sx_m b1_m b2_m v1 hI
  obtain ⟨hR, hP, hB, hS, hG⟩ := hI
  have hR0 := hR
  obtain ⟨N, sal, md, L, O, Hd, hO, h2, h3, x, r⟩ := hR
  have hN := hO.2.1
  have hN1 := hO.1
  have hPk := lt_ok md L hN
  have hle := hPk.1
  have hB0 := hB
  have hS0 := hS
  have hP0 := hP
  have fin : ∃ q A B, fX7_told sz sa mo li lo he ri rs gr fm tt co le wa ar hd bn bg bz pz sd v1 = some (q, A) ∧ fX8_told w_m kn_m sd_m bo_m bi_m bk_m ri_m fm_m tt_m le_m wa_m hd_m sx_m v1 = some (q, B) := by
    obtain ⟨ri', rs', gr', fm', tt', co', le', wa', ar', t1, t2, t3, t4, t5, t6, t7, t8, t9⟩ := trace_n hO h3 x ri rs gr fm tt co le wa ar
    have ex := x.1
    have ex2 := x.2.1
    have ex3 := x.2.2.1
    subst ex ex2 ex3
    obtain ⟨Z, hZ, ez1, ez2, hb⟩ := hB
    obtain ⟨K, P, hK, hP16, ek1, ek2, ek3, hj⟩ := hP
    obtain ⟨es1, es2⟩ := hS
    subst ez1 ez2 ek1 ek2 es1
    have r1 : w_m 0 = nI N := r.1
    have r2 : w_m 1 = nI sal := r.2.1
    have r3 : w_m 2 = nI md := r.2.2.1
    have hL9 : ∀ v, L v < 65536 := fun v => Nat.lt_of_lt_of_le (hO.2.2.2.1 v) (Nat.le_trans (Nat.pow_le_pow_right (by omega) hN : 2 ^ N ≤ 2 ^ 9) (by decide))
    have hO9 : ∀ v, O v < 65536 := fun v => Nat.lt_of_lt_of_le (O_lt hO v) (Nat.le_trans (Nat.pow_le_pow_right (by omega) hN : 2 ^ N ≤ 2 ^ 9) (by decide))
    rw [fX7_told, t1, fX8_told]
    simp only [bd9, Option.bind_some]
    by_cases c : v1 = 0
    · rw [if_pos c, if_pos c, r1]
      exact ⟨_, _, _, rfl, rfl⟩
    rw [if_neg c, if_neg c]
    by_cases c : v1 = 1
    · rw [if_pos c, if_pos c, pairs_n hL9 (fun v hv => (x.2.2.2 v hv).1), links_n hN r1 hL9 (fun v hv => (hO.2.2.1 v hv).1) (fun v hv => by
        have := (r.2.2.2 v hv).1
        rw [Nat.zero_add] at this
        exact this)]
      exact ⟨_, _, _, rfl, rfl⟩
    rw [if_neg c, if_neg c]
    by_cases c : v1 = 2
    · rw [if_pos c, if_pos c, pairs_n hO9 (fun v hv => (x.2.2.2 v hv).2.1), lostLinks_n hN r1 hO9 (fun v hv => (hO.2.2.1 v hv).2.1) (fun v hv => by
        have := (r.2.2.2 v hv).2.1
        rw [Nat.zero_add] at this
        exact this)]
      exact ⟨_, _, _, rfl, rfl⟩
    rw [if_neg c, if_neg c]
    by_cases c : v1 = 3
    · rw [if_pos c, if_pos c, r2]
      exact ⟨_, _, _, rfl, rfl⟩
    rw [if_neg c, if_neg c]
    by_cases c : v1 = 4
    · rw [if_pos c, if_pos c, r3]
      exact ⟨_, _, _, rfl, rfl⟩
    rw [if_neg c, if_neg c]
    by_cases c : v1 = 5
    · obtain ⟨ri2, m1, m2⟩ := layM hO r ri_m
      rw [if_pos c, if_pos c, t4, fX8_outermost, m1, Option.bind_some, great_n hO r m2, Option.bind_some]
      exact ⟨_, _, _, rfl, rfl⟩
    rw [if_neg c, if_neg c]
    by_cases c : v1 = 6
    · obtain ⟨ri2, fm2, tt2, wa2, m1, m2, m3, m4⟩ := waysM hO h3 r ri_m fm_m tt_m le_m wa_m
      have e1 := comersL t8 9 0 300 (by omega) (by omega)
      have e1' : fX6_comers_L4 wa' 300 0 0 = some (cmK (wyK O (lts N md L) (lts N md L).length wy0) 9) := e1
      have e2 := comesSL hN r1 m4 N 0 300 (by omega) (by omega)
      have e2' : fX8_comesSet_L8 w_m wa2 300 0 0 = some (cmK (wyK O (lts N md L) (lts N md L).length wy0) N) := e2
      have e3 := cmK_st (f := wyK O (lts N md L) (lts N md L).length wy0) (N := N) (fun j hj _ => wy_z hN1 hPk hj) 9 hN (by omega)
      rw [if_pos c, if_pos c, fX6_comers, e1', Option.bind_some, Option.bind_some, fX8_comesSet, m1]
      simp only [bd5, bd6, Option.bind_some]
      rw [e2', ← e3]
      exact ⟨_, _, _, rfl, rfl⟩
    rw [if_neg c, if_neg c]
    by_cases c : v1 = 7
    · obtain ⟨ri2, m1⟩ := truth_n hO r ri_m
      rw [if_pos c, if_pos c, true_n hO t2 (fun v hv => (x.2.2.2 v hv).2.2), m1]
      exact ⟨_, _, _, rfl, rfl⟩
    rw [if_neg c, if_neg c]
    by_cases c : v1 = 8
    · obtain ⟨ri2, fm2, tt2, m1, m2, m3⟩ := lettersM hO h3 r ri_m fm_m tt_m le_m
      rw [if_pos c, if_pos c, t7, fX8_letterMany, m1]
      exact ⟨_, _, _, rfl, rfl⟩
    rw [if_neg c, if_neg c]
    by_cases c : v1 = 9
    · obtain ⟨ri2, fm2, tt2, m1, m2, m3⟩ := lettersM hO h3 r ri_m fm_m tt_m le_m
      have e1 := arrivals_n t9
      rw [to_sum hN hPk] at e1
      have e2 := lostL hO r hPk m3 (lts N md L).length 0 300 (by omega) (by omega)
      have e2' : fX8_lostLetters_L8 w_m fm2 tt2 (nI (lts N md L).length) 300 0 0 = some (nI (fb_ct (fun i => !cmB O (lts N md L) i) (lts N md L).length)) := e2
      have e3 := fb_ct_not (cmB O (lts N md L)) (lts N md L).length
      have e4 : nI (lts N md L).length - nI (fb_ct (cmB O (lts N md L)) (lts N md L).length) = nI (fb_ct (fun i => !cmB O (lts N md L) i) (lts N md L).length) := by
        rw [pk_sub (by omega)]
        congr 1
        omega
      rw [if_pos c, if_pos c, t7, e1, Option.bind_some, e4, fX8_lostLetters, m1]
      simp only [bd4, bd5, Option.bind_some]
      rw [e2']
      exact ⟨_, _, _, rfl, rfl⟩
    rw [if_neg c, if_neg c]
    by_cases c : v1 = 10
    · rw [if_pos c, if_pos c]
      exact ⟨_, _, _, rfl, rfl⟩
    rw [if_neg c, if_neg c]
    by_cases c : v1 = 11
    · obtain ⟨X, M, ri3, fm3, tt3, sx3, e1, e2, e3, e4, e5⟩ := held_n (k := 1) hO h2 h3 r (by omega) t2 (fun v hv => (x.2.2.2 v hv).2.2) t5 t6 hd ri_m fm_m tt_m le_m hd_m sx_m
      rw [if_pos c, if_pos c, t7, fX7_firstWrong, zl1, e1, Option.bind_some, fX8_wrongEntry, zl0]
      rcases wrongL hO h2 h3 r t2 (fun v hv => (x.2.2.2 v hv).2.2) t5 t6 hd e1 hZ hb Z 0 300 ri_m fm_m tt_m le_m hd_m sx_m (by omega) (by omega) with ⟨q, B, f1, f2⟩ | ⟨B, f1, f2⟩
      · rw [f1, f2]
        exact ⟨_, _, _, rfl, rfl⟩
      · rw [f1, f2]
        exact ⟨_, _, _, rfl, rfl⟩
    rw [if_neg c, if_neg c]
    by_cases c : v1 = 12
    · rw [if_pos c, if_pos c]
      exact ⟨_, _, _, rfl, rfl⟩
    rw [if_neg c, if_neg c]
    by_cases c : v1 = 13
    · rw [if_pos c, if_pos c]
      exact ⟨_, _, _, rfl, rfl⟩
    rw [if_neg c, if_neg c]
    exact ⟨_, _, _, rfl, rfl⟩
  obtain ⟨q, ⟨A0, A1, A2, A3, A4, A5, A6, A7, A8, A9⟩, ⟨B0, B1, B2, B3, B4, B5, B6⟩, f1, f2⟩ := fin
  exact ⟨q, A0, A1, A2, A3, A4, A5, A6, A7, A8, A9, B0, B1, B2, B3, B4, B5, B6, f1, f2, hR0, hP, hB, hS, hG⟩
