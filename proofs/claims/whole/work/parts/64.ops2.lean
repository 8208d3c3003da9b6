/-! marks, salt, mode, hearing -/
theorem in_ab (x : Int32) {a n : Nat} (hn : n < 2 ^ 31) (ha : a ≤ n) : (∃ j, a ≤ j ∧ j ≤ n ∧ x = nI j) ∨ decide (nI a ≤ x ∧ x ≤ nI n) = false := by
  by_cases h : nI a ≤ x ∧ x ≤ nI n
  · left
    rw [Int32.le_iff_toInt_le, Int32.le_iff_toInt_le, nI_toInt hn, nI_toInt (by omega)] at h
    have h0 : ¬ x < 0 := by
      rw [Int32.lt_iff_toInt_lt]
      have : (0 : Int32).toInt = 0 := by decide
      have := h.1
      omega
    obtain ⟨j, hj, e⟩ := nI_of h0
    have h1 := h.2
    have h2 := h.1
    rw [e, nI_toInt hj] at h1 h2
    exact ⟨j, by omega, by omega, e⟩
  · right
    exact decide_eq_false h
theorem ab_yes {a j n : Nat} (ha : a ≤ j) (h : j ≤ n) (hn : n < 2 ^ 31) : decide (nI a ≤ nI j ∧ nI j ≤ nI n) = true := by
  apply decide_eq_true
  exact ⟨nI_le ha (by omega), nI_le h hn⟩
theorem bI_t : bI true = nI 1 := rfl
theorem bI_f : bI false = nI 0 := rfl
theorem markOf_eq {j : Nat} (hj : j < 16) (w : Nat → Int32) : fX8_markOf w (nI j) = fX7_markOf (nI j) (w 1) := by
  have e : (nI j + 1).toInt64 = (nI j).toInt64 + 1 := by
    rw [nI_1, nI_l (by omega), nI_l (by omega), lN_1]
  unfold fX8_markOf fX7_markOf
  rw [e]
theorem rank_eq : ∀ (n : Nat) (a b : Int32), fX8_rankOf_L8 n a b = fX7_rankOf_L4 n b a := by
  intro n
  induction n with
  | zero => intro a b; rfl
  | succ n ih =>
    intro a b
    rw [fX8_rankOf_L8, fX7_rankOf_L4, ih]
theorem rankOf_eq {j : Nat} (hj : j < 16) (w : Nat → Int32) : fX8_rankOf w (nI j) = (fX7_markOf (nI j) (w 1)).bind fX7_rankOf := by
  rw [fX8_rankOf, markOf_eq hj]
  unfold fX7_markOf fX7_rankOf
  rw [Option.bind_some, Option.bind_some, rank_eq]
theorem rank_some : ∀ (m n k : Nat) (x : Int32), k + m = 7 → m < n → ∃ r, r ≤ 7 ∧ fX7_rankOf_L4 n (nI k) x = some (nI r) := by
  intro m
  induction m with
  | zero =>
    intro n k x hk hn
    obtain ⟨n, rfl⟩ : ∃ z, n = z + 1 := ⟨n - 1, by omega⟩
    have e : k = 7 := by omega
    subst e
    refine ⟨7, by omega, ?_⟩
    rw [fX7_rankOf_L4]
    simp (disch := omega) only [zl0, zl1, zl2, zl3, zl6, zl7, zl8, zl9, zl12, zl15, zl16, zl20, zl21, zl30, zl31, zl36, zl510, zl1024, zl65535, zl65536, Option.bind_some, rdI_n, wrI_n, rdL_n, wrL_n, nI_add, nI_leI, nI_ltI, nI_eq, if_pos, if_neg, bI_z, if_true, if_false, reduceCtorEq, eq_self]
  | succ m ih =>
    intro n k x hk hn
    obtain ⟨n, rfl⟩ : ∃ z, n = z + 1 := ⟨n - 1, by omega⟩
    rw [fX7_rankOf_L4, if_neg (show ¬ (7 : Int32) ≤ nI k from nI_ge (a := k) (b := 7) (by omega) (by omega))]
    by_cases h : x - x / 2 * 2 = 0
    · rw [if_pos h, nI_1]
      exact ih n (k + 1) _ (by omega) (by omega)
    · rw [if_neg h]
      exact ⟨k, by omega, rfl⟩
theorem rankOf_some (x : Int32) : ∃ r, r ≤ 7 ∧ fX7_rankOf x = some (nI r) := by
  obtain ⟨r, h1, h2⟩ := rank_some 7 300 0 x (by omega) (by omega)
  refine ⟨r, h1, ?_⟩
  rw [fX7_rankOf, zl0, h2, Option.bind_some]
theorem op_mark : OP_mark theInv := by
  intro rc sz sa mo li lo he pz pn gsz gsa gmo gli glo ghe ri rs gr fm tt co le wa ar hd bn bg bz sd ik is_ isz isa imo ili ilo ihe w_m kn_m kp_m sd_m ks_m bo_m bi_m bk_m ri_m fm_m tt_m le_m wa_m hd_m sx_m b1_m b2_m v1 v2 hI
  obtain ⟨hR, hP, hB, hS, hG⟩ := hI
  have hR0 := hR
  obtain ⟨N, sal, md, L, O, Hd, hO, h2, h3, x, r⟩ := hR
  have hw : w_m 1 = sa := by rw [x.2.1]; exact r.2.1
  have fin : ∃ q : Int32, fX7_mark sa v1 v2 = some q ∧ fX8_mark w_m v1 v2 = some q := by
    rw [fX7_mark, fX8_mark, in_n, within_n, Option.bind_some, Option.bind_some]
    rcases in_or v1 (n := 15) (by omega) with ⟨j, hj, rfl⟩ | hn
    · rw [zl15, in_yes hj (by omega), bI_t]
      rw [jn0, jn0, if_neg (by decide), if_neg (by decide), in_n, within_n, Option.bind_some, Option.bind_some]
      rcases in_or v2 (n := 1) (by omega) with ⟨i, hi, rfl⟩ | hn
      · rw [zl1, in_yes hi (by omega), bI_t, if_neg (by decide), if_neg (by decide), markOf_eq (by omega), rankOf_eq (by omega), hw]
        by_cases h0 : nI i = 0
        · rw [if_pos h0]
          unfold fX7_markOf
          rw [Option.bind_some, if_pos h0]
          exact ⟨_, rfl, rfl⟩
        · rw [if_neg h0]
          unfold fX7_markOf
          rw [Option.bind_some, if_neg h0, Option.bind_some]
          obtain ⟨q, hq, e⟩ := rankOf_some ((((((nI j).toInt64 + (1 : Int64)) * (((2 : Int64) * sa.toInt64) + (1 : Int64))) * (40503 : Int64)) - ((((nI j).toInt64 + (1 : Int64)) * (((2 : Int64) * sa.toInt64) + (1 : Int64))) * (40503 : Int64)) / (65536 : Int64) * (65536 : Int64)) / (64 : Int64)).toInt32
          rw [e]
          exact ⟨_, rfl, rfl⟩
      · rw [zl1, hn]
        exact ⟨_, rfl, rfl⟩
    · rw [zl15, hn]
      exact ⟨_, rfl, rfl⟩
  obtain ⟨q, f1, f2⟩ := fin
  exact ⟨q, f1, f2, hR0, hP, hB, hS, hG⟩
theorem row_c {N sal md : Nat} {L O Hd : Nat → Nat} {w w1 : Nat → Int32} (hN : N ≤ 9) (r : rowM N sal md L O Hd w 0) (hw : ∀ k, k < 30 → w1 k = w k) : rowM N sal md L O Hd w1 0 := by
  obtain ⟨r1, r2, r3, r4⟩ := r
  exact ⟨(hw _ (by omega)).trans r1, (hw _ (by omega)).trans r2, (hw _ (by omega)).trans r3, fun v hv => ⟨(hw _ (by omega)).trans (r4 v hv).1, (hw _ (by omega)).trans (r4 v hv).2.1, (hw _ (by omega)).trans (r4 v hv).2.2⟩⟩
theorem put_n {w w1 : Nat → Int32} {kn kn1 : Int32} {i : Nat} {x : Int32} (h : fX8_remember w kn = some (w1, kn1)) (hi : i < 570) : fX8_put w kn (nI i) x = some (w1 i, upd w1 i x, kn1) := by
  rw [fX8_put, h]
  simp (disch := omega) only [zl0, zl1, zl2, zl3, zl6, zl7, zl8, zl9, zl12, zl15, zl16, zl20, zl21, zl30, zl31, zl36, zl510, zl1024, zl65535, zl65536, Option.bind_some, rdI_n, wrI_n, rdL_n, wrL_n, nI_add, nI_leI, nI_ltI, nI_eq, if_pos, if_neg, bI_z, if_true, if_false, reduceCtorEq, eq_self, bd2]
theorem op_salt : OP_salt theInv := by
  intro rc sz sa mo li lo he pz pn gsz gsa gmo gli glo ghe ri rs gr fm tt co le wa ar hd bn bg bz sd ik is_ isz isa imo ili ilo ihe w_m kn_m kp_m sd_m ks_m bo_m bi_m bk_m ri_m fm_m tt_m le_m wa_m hd_m sx_m b1_m b2_m v1 hI
  obtain ⟨hR, hP, hB, hS, hG⟩ := hI
  have hR0 := hR
  obtain ⟨N, sal, md, L, O, Hd, hO, h2, h3, x, r⟩ := hR
  obtain ⟨pz1, pn1, gsz1, gsa1, gmo1, gli1, glo1, ghe1, w1, kn1, e1, e2, p1, a1, a2⟩ := remember_both hR0 hP
  rcases in_or v1 (n := 65535) (by omega) with ⟨j, hj, rfl⟩ | hn
  · refine ⟨sa, nI j, pz1, pn1, gsz1, gsa1, gmo1, gli1, glo1, ghe1, upd w1 1 (nI j), kn1, ?_, ?_, ⟨N, j, md, L, O, Hd, hO, by omega, h3, ⟨x.1, rfl, x.2.2⟩, ?_⟩, past_w p1 (fun k h5 h6 => pk_un (by omega)), hB, hS, img_w hG (fun k hk => (pk_un (by omega)).trans (a2 k hk))⟩
    · rw [fX7_salt, within_n, Option.bind_some, zl65535, in_yes hj (by omega), bI_t, if_neg (by decide), e1]
      rfl
    · rw [fX8_salt, in_n, Option.bind_some, zl65535, in_yes hj (by omega), bI_t, if_neg (by decide), zl1, put_n e2 (by omega), a1 1 (by omega), x.2.1]
      have e := r.2.1
      rw [Nat.zero_add] at e
      rw [e]
      rfl
    · obtain ⟨r1, r2, r3, r4⟩ := row_c hO.2.1 r a1
      exact ⟨(pk_un (by omega)).trans r1, pk_us, (pk_un (by omega)).trans r3, fun v hv => ⟨(pk_un (by omega)).trans (r4 v hv).1, (pk_un (by omega)).trans (r4 v hv).2.1, (pk_un (by omega)).trans (r4 v hv).2.2⟩⟩
  · refine ⟨(-1000000002 : Int32), sa, pz, pn, gsz, gsa, gmo, gli, glo, ghe, w_m, kn_m, ?_, ?_, hR0, hP, hB, hS, hG⟩
    · rw [fX7_salt, within_n, Option.bind_some, zl65535, hn, bI_f, if_pos (by decide)]
    · rw [fX8_salt, in_n, Option.bind_some, zl65535, hn, bI_f, if_pos (by decide)]
theorem op_mode : OP_mode theInv := by
  intro rc sz sa mo li lo he pz pn gsz gsa gmo gli glo ghe ri rs gr fm tt co le wa ar hd bn bg bz sd ik is_ isz isa imo ili ilo ihe w_m kn_m kp_m sd_m ks_m bo_m bi_m bk_m ri_m fm_m tt_m le_m wa_m hd_m sx_m b1_m b2_m v1 hI
  obtain ⟨hR, hP, hB, hS, hG⟩ := hI
  have hR0 := hR
  obtain ⟨N, sal, md, L, O, Hd, hO, h2, h3, x, r⟩ := hR
  obtain ⟨pz1, pn1, gsz1, gsa1, gmo1, gli1, glo1, ghe1, w1, kn1, e1, e2, p1, a1, a2⟩ := remember_both hR0 hP
  rcases in_or v1 (n := 1) (by omega) with ⟨j, hj, rfl⟩ | hn
  · refine ⟨mo, nI j, pz1, pn1, gsz1, gsa1, gmo1, gli1, glo1, ghe1, upd w1 2 (nI j), kn1, ?_, ?_, ⟨N, sal, j, L, O, Hd, hO, h2, by omega, ⟨x.1, x.2.1, rfl, x.2.2.2⟩, ?_⟩, past_w p1 (fun k h5 h6 => pk_un (by omega)), hB, hS, img_w hG (fun k hk => (pk_un (by omega)).trans (a2 k hk))⟩
    · rw [fX7_mode, within_n, Option.bind_some, zl1, in_yes hj (by omega), bI_t, if_neg (by decide), e1]
      rfl
    · rw [fX8_mode, in_n, Option.bind_some, zl1, in_yes hj (by omega), bI_t, if_neg (by decide), zl2, put_n e2 (by omega), a1 2 (by omega), x.2.2.1]
      have e := r.2.2.1
      rw [Nat.zero_add] at e
      rw [e]
      rfl
    · obtain ⟨r1, r2, r3, r4⟩ := row_c hO.2.1 r a1
      exact ⟨(pk_un (by omega)).trans r1, (pk_un (by omega)).trans r2, pk_us, fun v hv => ⟨(pk_un (by omega)).trans (r4 v hv).1, (pk_un (by omega)).trans (r4 v hv).2.1, (pk_un (by omega)).trans (r4 v hv).2.2⟩⟩
  · refine ⟨(-1000000002 : Int32), mo, pz, pn, gsz, gsa, gmo, gli, glo, ghe, w_m, kn_m, ?_, ?_, hR0, hP, hB, hS, hG⟩
    · rw [fX7_mode, within_n, Option.bind_some, zl1, hn, bI_f, if_pos (by decide)]
    · rw [fX8_mode, in_n, Option.bind_some, zl1, hn, bI_f, if_pos (by decide)]
def un (f : Nat → Nat) (k x : Nat) : Nat → Nat := fun j => if j = k then x else f j
theorem un_s {f : Nat → Nat} {k x : Nat} : un f k x k = x := if_pos rfl
theorem un_n {f : Nat → Nat} {k x j : Nat} (h : j ≠ k) : un f k x j = f j := if_neg h
theorem hd_set {N : Nat} {L O Hd : Nat → Nat} {u j : Nat} (h : netOK N L O Hd) (hu : u < N) (hj : j < 65536) : netOK N L O (un Hd u j) := by
  obtain ⟨a1, a2, a3, a4, a5, a6⟩ := h
  refine ⟨a1, a2, fun v hv => ⟨(a3 v hv).1, (a3 v hv).2.1, ?_⟩, a4, fun v => ?_, a6⟩
  · rw [un_n (by omega)]; exact (a3 v hv).2.2
  · by_cases e : v = u
    · rw [e, un_s]; exact hj
    · rw [un_n e]; exact a5 v
theorem hd_x {N sal md : Nat} {L O Hd : Nat → Nat} {sz sa mo : Int32} {li lo he : Nat → Int32} {u j : Nat} (x : netX N sal md L O Hd sz sa mo li lo he) : netX N sal md L O (un Hd u j) sz sa mo li lo (upd he u (nI j)) := by
  refine ⟨x.1, x.2.1, x.2.2.1, fun v hv => ⟨(x.2.2.2 v hv).1, (x.2.2.2 v hv).2.1, ?_⟩⟩
  by_cases e : v = u
  · rw [e, un_s, pk_us]
  · rw [un_n e, pk_un e]; exact (x.2.2.2 v hv).2.2
theorem hd_r {N sal md : Nat} {L O Hd : Nat → Nat} {w : Nat → Int32} {u j : Nat} (hN : N ≤ 9) (hu : u < N) (r : rowM N sal md L O Hd w 0) : rowM N sal md L O (un Hd u j) (upd w (21 + u) (nI j)) 0 := by
  obtain ⟨r1, r2, r3, r4⟩ := r
  refine ⟨(pk_un (by omega)).trans r1, (pk_un (by omega)).trans r2, (pk_un (by omega)).trans r3, fun v hv => ⟨(pk_un (by omega)).trans (r4 v hv).1, (pk_un (by omega)).trans (r4 v hv).2.1, ?_⟩⟩
  by_cases e : v = u
  · rw [e, un_s, Nat.zero_add, pk_us]
  · rw [un_n e, pk_un (by omega)]; exact (r4 v hv).2.2
theorem op_hear : OP_hear theInv := by
  intro rc sz sa mo li lo he pz pn gsz gsa gmo gli glo ghe ri rs gr fm tt co le wa ar hd bn bg bz sd ik is_ isz isa imo ili ilo ihe w_m kn_m kp_m sd_m ks_m bo_m bi_m bk_m ri_m fm_m tt_m le_m wa_m hd_m sx_m b1_m b2_m v1 v2 hI
  obtain ⟨hR, hP, hB, hS, hG⟩ := hI
  have hR0 := hR
  obtain ⟨N, sal, md, L, O, Hd, hO, h2, h3, x, r⟩ := hR
  have hN := hO.2.1
  obtain ⟨pz1, pn1, gsz1, gsa1, gmo1, gli1, glo1, ghe1, w1, kn1, e1, e2, p1, a1, a2⟩ := remember_both hR0 hP
  have ex := x.1
  subst ex
  rcases node_or v1 hN with ⟨u, hu, rfl⟩ | hn
  · rcases in_or v2 (n := 65535) (by omega) with ⟨j, hj, rfl⟩ | hn
    · refine ⟨he u, upd he u (nI j), pz1, pn1, gsz1, gsa1, gmo1, gli1, glo1, ghe1, upd w1 (21 + u) (nI j), kn1, ?_, ?_, ⟨N, sal, md, L, O, un Hd u j, hd_set hO hu (by omega), h2, h3, hd_x x, hd_r hN hu (row_c hN r a1)⟩, past_w p1 (fun k h5 h6 => pk_un (by omega)), hB, hS, img_w hG (fun k hk => (pk_un (by omega)).trans (a2 k hk))⟩
      · rw [fX7_hear, hasX hN hu, Option.bind_some, if_neg (by decide), within_n, Option.bind_some, zl65535, in_yes hj (by omega), bI_t, if_neg (by decide), e1]
        simp (disch := omega) only [zl0, zl1, zl2, zl3, zl6, zl7, zl8, zl9, zl12, zl15, zl16, zl20, zl21, zl30, zl31, zl36, zl510, zl1024, zl65535, zl65536, Option.bind_some, rdI_n, wrI_n, rdL_n, wrL_n, nI_add, nI_leI, nI_ltI, nI_eq, if_pos, if_neg, bI_z, if_true, if_false, reduceCtorEq, eq_self, bd8]
      · rw [fX8_hear, nodeM hO.1 hN r.1 hu, Option.bind_some, if_neg (by decide), in_n, Option.bind_some, zl65535, in_yes hj (by omega), bI_t, if_neg (by decide), zl21, nI_add, put_n e2 (by omega), a1 _ (by omega)]
        have e := (r.2.2.2 u hu).2.2
        rw [Nat.zero_add] at e
        rw [e, ← (x.2.2.2 u (by omega)).2.2]
        rfl
    · refine ⟨(-1000000002 : Int32), he, pz, pn, gsz, gsa, gmo, gli, glo, ghe, w_m, kn_m, ?_, ?_, hR0, hP, hB, hS, hG⟩
      · rw [fX7_hear, hasX hN hu, Option.bind_some, if_neg (by decide), within_n, Option.bind_some, zl65535, hn, bI_f, if_pos (by decide)]
      · rw [fX8_hear, nodeM hO.1 hN r.1 hu, Option.bind_some, if_neg (by decide), in_n, Option.bind_some, zl65535, hn, bI_f, if_pos (by decide)]
  · refine ⟨(-1000000001 : Int32), he, pz, pn, gsz, gsa, gmo, gli, glo, ghe, w_m, kn_m, ?_, ?_, hR0, hP, hB, hS, hG⟩
    · rw [fX7_hear, hasX0 hN hn, Option.bind_some, if_pos rfl]
    · rw [fX8_hear, nodeM0 hO.1 hN r.1 hn, Option.bind_some, if_pos rfl]
