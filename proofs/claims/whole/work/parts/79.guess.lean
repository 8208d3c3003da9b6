/-! guesses -/
theorem ge8 (z : Int32) : (8 : Int32) ≤ z ↔ (7 : Int32) < z := by
  rw [fa_le, fa_lt]
  have h8 : (8 : Int32).toInt = 8 := by decide
  have h7 : (7 : Int32).toInt = 7 := by decide
  omega
theorem bb_eq {hd : Nat → Int64} {v : Nat} (hv : v < 9) : ∀ (n : Nat) (z : Int32), fX8_byBits_L7 hd (nI v) n z = fX5_guessByBits_L10 (hd v) n z := by
  intro n
  induction n with
  | zero => intro z; rfl
  | succ n ih =>
    intro z
    rw [fX8_byBits_L7, fX5_guessByBits_L10, rdL_n hv (by omega), Option.bind_some, ih]
    by_cases e : (8 : Int32) ≤ z
    · rw [if_pos e, if_pos ((ge8 z).mp e)]
    · rw [if_neg e, if_neg (fun c => e ((ge8 z).mpr c))]
theorem bb_some (S : Int64) : ∀ (t k n : Nat), k + t = 8 → t < n → ∃ r, fX5_guessByBits_L10 S n (nI k) = some r := by
  intro t
  induction t with
  | zero =>
    intro k n hk hn
    obtain ⟨n, rfl⟩ : ∃ z, n = z + 1 := ⟨n - 1, by omega⟩
    refine ⟨nI k, ?_⟩
    rw [fX5_guessByBits_L10, if_pos (show (7 : Int32) < nI k from nI_lt (a := 7) (b := k) (by omega) (by omega))]
  | succ t ih =>
    intro k n hk hn
    obtain ⟨n, rfl⟩ : ∃ z, n = z + 1 := ⟨n - 1, by omega⟩
    rw [fX5_guessByBits_L10, if_neg (show ¬ (7 : Int32) < nI k from nI_nlt (a := 7) (b := k) (by omega) (by omega))]
    by_cases e : lg_cmp (S >>> ((nI k).toInt64 &&& 63) &&& 1) 1 = 0
    · rw [if_pos e, nI_1]
      exact ih (k + 1) n (by omega) (by omega)
    · rw [if_neg e]
      exact ⟨_, rfl⟩
def gbF (S : Int64) (z : Int32) : Int32 := if lg_cmp S 0 = 0 then 0 else (1 : Int32) <<< (z &&& 31) * 1000 / 773
theorem gb_n (S : Int64) : ∃ z, fX5_guessByBits_L10 S 300 0 = some z ∧ fX5_guessByBits S = some (gbF S z) := by
  obtain ⟨z, hz⟩ := bb_some S 8 0 300 (by omega) (by omega)
  have hz' : fX5_guessByBits_L10 S 300 0 = some z := hz
  refine ⟨z, hz', ?_⟩
  rw [fX5_guessByBits, hz']
  unfold gbF
  by_cases e : lg_cmp S 0 = 0
  · rw [if_pos e, if_pos e]
  · rw [if_neg e, if_neg e]
    rfl
def glF (p : Nat × Nat × Nat) : Nat := if p.1 = 1024 then 0 else if p.2.1 = 1024 then 1 else if p.2.2 = 1024 then 2 else 2048 / (p.2.2 + 1)
theorem gl_n {p : Nat × Nat × Nat} (h : cnT p) : fX5_guessByLeast (lN (p3T p)) = some (nI (glF p)) := by
  obtain ⟨a, b, c⟩ := p
  have h' : cn a b c := h
  have f1 := first_n h'
  have f2 := second_n h'
  have f3 := third_n h'
  obtain ⟨h1, h2, h3, _, _⟩ := h'
  have q : ∀ x, x ≤ 1024 → (lg_cmp (lN x) 1024 = 0 ↔ x = 1024) := fun x hx => by
    rw [cmp0, show (1024 : Int64) = lN 1024 from rfl, pk_lEQ (by omega) (by omega)]
  show fX5_guessByLeast (lN (p3 a b c)) = some (nI (if a = 1024 then 0 else if b = 1024 then 1 else if c = 1024 then 2 else 2048 / (c + 1)))
  rw [fX5_guessByLeast, f1, Option.bind_some]
  by_cases e1 : a = 1024
  · rw [if_pos ((q a h1).mpr e1), if_pos e1]; rfl
  rw [if_neg (fun c => e1 ((q a h1).mp c)), if_neg e1, f2, Option.bind_some]
  by_cases e2 : b = 1024
  · rw [if_pos ((q b h2).mpr e2), if_pos e2]; rfl
  rw [if_neg (fun c => e2 ((q b h2).mp c)), if_neg e2, f3, Option.bind_some]
  by_cases e3 : c = 1024
  · rw [if_pos ((q c h3).mpr e3), if_pos e3]; rfl
  have hz : ¬ lN (c + 1) = 0 := fun hh => by
    have := (pk_lEQ (a := c + 1) (b := 0) (by omega) (by omega)).mp hh
    omega
  have hg : 0 ≤ lg_cmp (lN c) 0 := by
    rw [cmpG, show (0 : Int64) = lN 0 from rfl, pk_lLT (by omega) (by omega)]
    omega
  rw [if_neg (fun k => e3 ((q c h3).mp k)), if_neg e3, if_pos hg, lN_1, dvL, if_neg hz, Option.bind_some, show (2048 : Int64) = lN 2048 from rfl, pk_lDiv (by omega) (by omega) (by omega), lN_i]
/-- the reference's guesses, where the class's are known -/
theorem byBits_n {N sal md : Nat} {L O Hd : Nat → Nat} {w ri fm tt co he : Nat → Int32} (hO : netOK N L O Hd) (hs : sal < 65536) (hm : md < 2) (rw_ : rowM N sal md L O Hd w 0) (h1 : ∀ j, j < 9 → ri j = rI (rvK N L 9 j)) (hh : ∀ v, v < 9 → he v = nI (Hd v)) (ha : arr (lts N md L) fm tt) (hc : arc O (lts N md L) co) (hd : Nat → Int64) (rim fmm ttm : Nat → Int32) (lem : Int32) (hdm : Nat → Int64) (sxm : Nat → Int32) {X : Nat → Int64} (hX : fX6_gather ri fm tt co (nI (lts N md L).length) hd (nI N) (nI sal) he (nI 1) = some X) {v : Nat} (hv : v < N) (hr : rvK N L 9 v ≠ 0) : ∃ G B, fX5_guessByBits (X v) = some G ∧ fX8_byBits w rim fmm ttm lem hdm sxm (nI v) = some (G, B) := by
  have hN := hO.2.1
  obtain ⟨X2, M, ri2, fm2, tt2, sx2, e1, e2, e3, e4, e5⟩ := held_n (k := 1) hO hs hm rw_ (by omega) h1 hh ha hc hd rim fmm ttm lem hdm sxm
  rw [hX] at e1
  injection e1 with e1
  subst e1
  obtain ⟨k1, _⟩ := (e5 v hv).2 hr
  obtain ⟨z, z1, z2⟩ := gb_n (X v)
  refine ⟨gbF (X v) z, (ri2, fm2, tt2, nI (lts N md L).length, M, sx2), z2, ?_⟩
  have e2' : fX8_layHeld w rim fmm ttm lem hdm sxm 1 = some (ri2, fm2, tt2, nI (lts N md L).length, M, sx2) := e2
  rw [k1] at z1 ⊢
  rw [fX8_byBits, e2']
  simp only [bd6, Option.bind_some]
  rw [bb_eq (by omega), z1, Option.bind_some, rdL_n (by omega) (by omega), Option.bind_some]
  unfold gbF
  by_cases e : lg_cmp (M v) 0 = 0
  · rw [if_pos e, if_pos e]
  · rw [if_neg e, if_neg e]
theorem byLeast_n {N sal md : Nat} {L O Hd : Nat → Nat} {w ri fm tt co he : Nat → Int32} (hO : netOK N L O Hd) (hs : sal < 65536) (hm : md < 2) (rw_ : rowM N sal md L O Hd w 0) (h1 : ∀ j, j < 9 → ri j = rI (rvK N L 9 j)) (hh : ∀ v, v < 9 → he v = nI (Hd v)) (ha : arr (lts N md L) fm tt) (hc : arc O (lts N md L) co) (hd : Nat → Int64) (rim fmm ttm : Nat → Int32) (lem : Int32) (hdm : Nat → Int64) (sxm : Nat → Int32) {X : Nat → Int64} (hX : fX6_gather ri fm tt co (nI (lts N md L).length) hd (nI N) (nI sal) he (nI 2) = some X) {v : Nat} (hv : v < N) (hr : rvK N L 9 v ≠ 0) : ∃ G B, fX5_guessByLeast (X v) = some G ∧ fX8_byLeast w rim fmm ttm lem hdm sxm (nI v) = some (G, B) := by
  have hN := hO.2.1
  obtain ⟨X2, M, ri2, fm2, tt2, sx2, e1, e2, e3, e4, e5⟩ := held_n (k := 2) hO hs hm rw_ (by omega) h1 hh ha hc hd rim fmm ttm lem hdm sxm
  rw [hX] at e1
  injection e1 with e1
  subst e1
  obtain ⟨k1, k2⟩ := (e5 v hv).2 hr
  obtain ⟨p, hp, hpe⟩ := k2 rfl
  obtain ⟨sx3, u1, u2, u3, u4, u5⟩ := unpack_n hp sx2 (i := 0) (by omega)
  have u1' : fX8_unpack sx2 (lN (p3T p)) 0 = some sx3 := u1
  have hg := gl_n hp
  rw [← hpe] at hg
  refine ⟨nI (glF p), (ri2, fm2, tt2, nI (lts N md L).length, M, sx3), hg, ?_⟩
  rw [fX8_byLeast, zl2, e2]
  simp only [bd6, Option.bind_some]
  rw [rdL_n (by omega) (by omega), Option.bind_some, ← k1, hpe, u1', Option.bind_some]
  obtain ⟨a, b, c⟩ := p
  obtain ⟨c1, c2, c3, c4, c5⟩ := hp
  have u2' : sx3 0 = nI a := u2
  have u3' : sx3 1 = nI b := u3
  have u4' : sx3 2 = nI c := u4
  have c1' : a ≤ 1024 := c1
  have c2' : b ≤ 1024 := c2
  have c3' : c ≤ 1024 := c3
  have c4' : a < b ∨ (a = 1024 ∧ b = 1024) := c4
  have c5' : b < c ∨ (b = 1024 ∧ c = 1024) := c5
  have gl1 : glF (a, b, c) = if a = 1024 then 0 else if b = 1024 then 1 else if c = 1024 then 2 else 2048 / (c + 1) := rfl
  have L1 : ∀ x, x ≤ 1024 → ((1024 : Int32) ≤ nI x ↔ x = 1024) := fun x hx => by
    rw [zl1024, nI_leI (by omega) (by omega)]; omega
  simp only [jn1]
  rw [u2', u3', u4', gl1]
  by_cases ea : a = 1024
  · rw [if_pos ((L1 a c1').mpr ea), if_pos ((L1 b c2').mpr (by omega)), if_pos ((L1 c c3').mpr (by omega)), if_neg (by decide), if_pos ea]
    rfl
  · rw [if_neg (fun k => ea ((L1 a c1').mp k)), if_neg ea]
    by_cases eb : b = 1024
    · rw [if_pos ((L1 b c2').mpr eb), if_pos ((L1 c c3').mpr (by omega)), if_neg (by decide), if_pos eb]
      rfl
    · rw [if_neg (fun k => eb ((L1 b c2').mp k)), if_neg eb]
      by_cases ec : c = 1024
      · rw [if_pos ((L1 c c3').mpr ec), if_neg (by decide), if_pos ec]
        rfl
      · have hz : ¬ nI (c + 1) = 0 := nI_ne0 (by omega) (by omega)
        rw [if_neg (fun k => ec ((L1 c c3').mp k)), if_pos (by decide), if_neg ec, nI_1, dvI, if_neg hz, Option.bind_some, show (2048 : Int32) = nI 2048 from rfl, pk_div (by omega) (by omega) (by omega)]
theorem rv_0 {N : Nat} (L : Nat → Nat) : rvK N L 9 0 ≠ 0 := by
  have : rvK N L 9 0 = 0 + 1 := (rv_eq (by omega)).mpr (by decide : (1 : Nat).testBit 0 = true)
  omega
/-! the calls -/
theorem op_holds : OP_holds theInv := by
  intro rc sz sa mo li lo he pz pn gsz gsa gmo gli glo ghe ri rs gr fm tt co le wa ar hd bn bg bz sd ik is_ isz isa imo ili ilo ihe w_m kn_m kp_m sd_m ks_m bo_m bi_m bk_m ri_m fm_m tt_m le_m wa_m hd_m sx_m b1_m b2_m v1 v2 hI
  obtain ⟨hR, hP, hB, hS, hG⟩ := hI
  have hR0 := hR
  obtain ⟨N, sal, md, L, O, Hd, hO, h2, h3, x, r⟩ := hR
  have hN := hO.2.1
  have fin : ∃ q A B, fX7_holds sz sa mo li lo he ri rs gr fm tt co le wa ar hd v1 v2 = some (q, A) ∧ fX8_holds w_m ri_m fm_m tt_m le_m hd_m sx_m v1 v2 = some (q, B) := by
    obtain ⟨ri', rs', gr', fm', tt', co', le', wa', ar', t1, t2, t3, t4, t5, t6, t7, t8, t9⟩ := trace_n hO h3 x ri rs gr fm tt co le wa ar
    have ex := x.1
    have ex2 := x.2.1
    subst ex ex2
    rcases node_or v1 hN with ⟨u, hu, rfl⟩ | hn
    · rcases in_or v2 (n := 3) (by omega) with ⟨k, hk, rfl⟩ | hn
      · obtain ⟨X, M, ri2, fm2, tt2, sx2, e1, e2, e3, e4, e5⟩ := held_n (k := k) hO h2 h3 r (by omega) t2 (fun v hv => (x.2.2.2 v hv).2.2) t5 t6 hd ri_m fm_m tt_m le_m hd_m sx_m
        rw [fX7_holds, hasX hN hu, Option.bind_some, if_neg (by decide), within_n, Option.bind_some, zl3, in_yes hk (by omega), bI_t, if_neg (by decide), t1]
        simp only [bd9, Option.bind_some]
        rw [t7, e1, Option.bind_some, rdL_n (by omega) (by omega), Option.bind_some]
        rw [fX8_holds, nodeM hO.1 hN r.1 hu, Option.bind_some, if_neg (by decide), in_n, Option.bind_some, zl3, in_yes hk (by omega), bI_t, if_neg (by decide), e2]
        simp only [bd6, Option.bind_some]
        rw [rdI_n (by omega) (by omega), Option.bind_some, e3 u (by omega)]
        have h9 := rv_le N L u 9
        by_cases e : rvK N L 9 u = 0
        · rw [if_pos ((rI_z (by omega)).mpr e), (e5 u hu).1 e]
          exact ⟨_, _, _, rfl, rfl⟩
        · rw [if_neg (fun c => e ((rI_z (by omega)).mp c)), rdL_n (by omega) (by omega), Option.bind_some, ((e5 u hu).2 e).1]
          exact ⟨_, _, _, rfl, rfl⟩
      · rw [fX7_holds, hasX hN hu, Option.bind_some, if_neg (by decide), within_n, Option.bind_some, zl3, hn, bI_f, if_pos (by decide)]
        rw [fX8_holds, nodeM hO.1 hN r.1 hu, Option.bind_some, if_neg (by decide), in_n, Option.bind_some, zl3, hn, bI_f, if_pos (by decide)]
        exact ⟨_, _, _, rfl, rfl⟩
    · rw [fX7_holds, hasX0 hN hn, Option.bind_some, if_pos rfl]
      rw [fX8_holds, nodeM0 hO.1 hN r.1 hn, Option.bind_some, if_pos rfl]
      exact ⟨_, _, _, rfl, rfl⟩
  obtain ⟨q, ⟨A0, A1, A2, A3, A4, A5, A6, A7, A8, A9⟩, ⟨B0, B1, B2, B3, B4, B5⟩, f1, f2⟩ := fin
  exact ⟨q, A0, A1, A2, A3, A4, A5, A6, A7, A8, A9, B0, B1, B2, B3, B4, B5, f1, f2, hR0, hP, hB, hS, hG⟩
theorem guessOf_n {N : Nat} {L : Nat → Nat} {ri : Nat → Int32} {X : Nat → Int64} (h1 : ∀ j, j < 9 → ri j = rI (rvK N L 9 j)) {v : Nat} (hv : v < 9) {k : Nat} (hk : k = 1 ∨ k = 2) {G : Int32} (hr : rvK N L 9 v ≠ 0) (hG : (if k = 1 then fX5_guessByBits (X v) else fX5_guessByLeast (X v)) = some G) : fX7_guessOf ri X (nI v) (nI k) = some G := by
  have h9 := rv_le N L v 9
  rw [fX7_guessOf, rdI_n (by omega) (by omega), Option.bind_some, h1 v hv, if_neg (fun c => hr ((rI_z (by omega)).mp c)), rdL_n (by omega) (by omega)]
  simp only [Option.bind_some]
  rcases hk with rfl | rfl
  · rw [if_pos rfl] at hG
    rw [if_pos (by decide), hG, Option.bind_some]
  · rw [if_neg (by decide)] at hG
    rw [if_neg (by decide), hG, Option.bind_some]
theorem op_guess : OP_guess theInv := by
  intro rc sz sa mo li lo he pz pn gsz gsa gmo gli glo ghe ri rs gr fm tt co le wa ar hd bn bg bz sd ik is_ isz isa imo ili ilo ihe w_m kn_m kp_m sd_m ks_m bo_m bi_m bk_m ri_m fm_m tt_m le_m wa_m hd_m sx_m b1_m b2_m v1 v2 hI
  obtain ⟨hR, hP, hB, hS, hG⟩ := hI
  have hR0 := hR
  obtain ⟨N, sal, md, L, O, Hd, hO, h2, h3, x, r⟩ := hR
  have hN := hO.2.1
  have fin : ∃ q A B, fX7_guess sz sa mo li lo he ri rs gr fm tt co le wa ar hd v1 v2 = some (q, A) ∧ fX8_guess w_m ri_m fm_m tt_m le_m hd_m sx_m v1 v2 = some (q, B) := by
    obtain ⟨ri', rs', gr', fm', tt', co', le', wa', ar', t1, t2, t3, t4, t5, t6, t7, t8, t9⟩ := trace_n hO h3 x ri rs gr fm tt co le wa ar
    have ex := x.1
    have ex2 := x.2.1
    subst ex ex2
    rcases node_or v1 hN with ⟨u, hu, rfl⟩ | hn
    · rcases in_ab v2 (a := 1) (n := 2) (by omega) (by omega) with ⟨k, hk1, hk2, rfl⟩ | hn
      · have hab : decide ((1 : Int32) ≤ nI k ∧ nI k ≤ 2) = true := ab_yes (a := 1) (n := 2) hk1 hk2 (by omega)
        obtain ⟨ri2, m1, m2⟩ := layM hO r ri_m
        obtain ⟨X, M, ri3, fm3, tt3, sx3, e1, e2, e3, e4, e5⟩ := held_n (k := k) hO h2 h3 r (by omega) t2 (fun v hv => (x.2.2.2 v hv).2.2) t5 t6 hd ri_m fm_m tt_m le_m hd_m sx_m
        rw [fX7_guess, hasX hN hu, Option.bind_some, if_neg (by decide), within_n, Option.bind_some, hab, bI_t, if_neg (by decide), t1]
        simp only [bd9, Option.bind_some]
        rw [t7, e1, Option.bind_some]
        rw [fX8_guess, nodeM hO.1 hN r.1 hu, Option.bind_some, if_neg (by decide), in_n, Option.bind_some, hab, bI_t, if_neg (by decide), m1, Option.bind_some, rdI_n (by omega) (by omega), Option.bind_some, m2 u (by omega)]
        have h9 := rv_le N L u 9
        by_cases e : rvK N L 9 u = 0
        · have hgo : fX7_guessOf ri' X (nI u) (nI k) = some (-1) := by
            rw [fX7_guessOf, rdI_n (by omega) (by omega), Option.bind_some, t2 u (by omega), if_pos ((rI_z (by omega)).mpr e)]
          rw [hgo, if_pos ((rI_z (by omega)).mpr e)]
          exact ⟨_, _, _, rfl, rfl⟩
        · rw [if_neg (fun c => e ((rI_z (by omega)).mp c))]
          by_cases ek : k = 1
          · subst ek
            obtain ⟨G, B, b1, b2⟩ := byBits_n hO h2 h3 r t2 (fun v hv => (x.2.2.2 v hv).2.2) t5 t6 hd ri2 fm_m tt_m le_m hd_m sx_m e1 hu e
            rw [guessOf_n t2 (show u < 9 by omega) (Or.inl rfl) e (G := G) (by rw [if_pos rfl]; exact b1), if_pos (by decide), b2]
            exact ⟨_, _, _, rfl, rfl⟩
          · have ek2 : k = 2 := by omega
            subst ek2
            obtain ⟨G, B, b1, b2⟩ := byLeast_n hO h2 h3 r t2 (fun v hv => (x.2.2.2 v hv).2.2) t5 t6 hd ri2 fm_m tt_m le_m hd_m sx_m e1 hu e
            rw [guessOf_n t2 (show u < 9 by omega) (Or.inr rfl) e (G := G) (by rw [if_neg (by decide)]; exact b1), if_neg (by decide), b2]
            exact ⟨_, _, _, rfl, rfl⟩
      · have hab : decide ((1 : Int32) ≤ v2 ∧ v2 ≤ 2) = false := hn
        rw [fX7_guess, hasX hN hu, Option.bind_some, if_neg (by decide), within_n, Option.bind_some, hab, bI_f, if_pos (by decide)]
        rw [fX8_guess, nodeM hO.1 hN r.1 hu, Option.bind_some, if_neg (by decide), in_n, Option.bind_some, hab, bI_f, if_pos (by decide)]
        exact ⟨_, _, _, rfl, rfl⟩
    · rw [fX7_guess, hasX0 hN hn, Option.bind_some, if_pos rfl]
      rw [fX8_guess, nodeM0 hO.1 hN r.1 hn, Option.bind_some, if_pos rfl]
      exact ⟨_, _, _, rfl, rfl⟩
  obtain ⟨q, ⟨A0, A1, A2, A3, A4, A5, A6, A7, A8, A9⟩, ⟨B0, B1, B2, B3, B4, B5⟩, f1, f2⟩ := fin
  exact ⟨q, A0, A1, A2, A3, A4, A5, A6, A7, A8, A9, B0, B1, B2, B3, B4, B5, f1, f2, hR0, hP, hB, hS, hG⟩
theorem op_off : OP_off theInv := by
  intro rc sz sa mo li lo he pz pn gsz gsa gmo gli glo ghe ri rs gr fm tt co le wa ar hd bn bg bz sd ik is_ isz isa imo ili ilo ihe w_m kn_m kp_m sd_m ks_m bo_m bi_m bk_m ri_m fm_m tt_m le_m wa_m hd_m sx_m b1_m b2_m v1 hI
  obtain ⟨hR, hP, hB, hS, hG⟩ := hI
  have hR0 := hR
  obtain ⟨N, sal, md, L, O, Hd, hO, h2, h3, x, r⟩ := hR
  have hN := hO.2.1
  have hN1 := hO.1
  have fin : ∃ q A B, fX7_off sz sa mo li lo he ri rs gr fm tt co le wa ar hd v1 = some (q, A) ∧ fX8_off w_m ri_m fm_m tt_m le_m hd_m sx_m v1 = some (q, B) := by
    obtain ⟨ri', rs', gr', fm', tt', co', le', wa', ar', t1, t2, t3, t4, t5, t6, t7, t8, t9⟩ := trace_n hO h3 x ri rs gr fm tt co le wa ar
    have ex := x.1
    have ex2 := x.2.1
    subst ex ex2
    rcases in_ab v1 (a := 1) (n := 2) (by omega) (by omega) with ⟨k, hk1, hk2, rfl⟩ | hn
    · obtain ⟨X, M, ri3, fm3, tt3, sx3, e1, e2, e3, e4, e5⟩ := held_n (k := k) hO h2 h3 r (by omega) t2 (fun v hv => (x.2.2.2 v hv).2.2) t5 t6 hd ri_m fm_m tt_m le_m hd_m sx_m
      have e := rv_0 (N := N) L
      rw [fX7_off, within_n, Option.bind_some, zl1, zl2, ab_yes hk1 hk2 (by omega), bI_t, if_neg (by decide), t1]
      simp only [bd9, Option.bind_some]
      rw [t7, e1, Option.bind_some]
      rw [fX8_off, in_n, Option.bind_some, zl1, zl2, ab_yes hk1 hk2 (by omega), bI_t, if_neg (by decide), zl0]
      simp only [jn7]
      rw [true_n hO t2 (fun v hv => (x.2.2.2 v hv).2.2)]
      by_cases ek : k = 1
      · subst ek
        obtain ⟨G, ⟨B1, B2, B3, B4, B5, B6⟩, b1, b2⟩ := byBits_n hO h2 h3 r t2 (fun v hv => (x.2.2.2 v hv).2.2) t5 t6 hd ri_m fm_m tt_m le_m hd_m sx_m e1 (show 0 < N by omega) e
        obtain ⟨ri5, m5⟩ := truth_n hO r B1
        rw [guessOf_n t2 (show 0 < 9 by omega) (Or.inl rfl) e (G := G) (by rw [if_pos rfl]; exact b1), if_pos (by decide), b2]
        simp only [bd7, bd2, Option.bind_some]
        rw [m5]
        exact ⟨_, _, _, rfl, rfl⟩
      · have ek2 : k = 2 := by omega
        subst ek2
        obtain ⟨G, ⟨B1, B2, B3, B4, B5, B6⟩, b1, b2⟩ := byLeast_n hO h2 h3 r t2 (fun v hv => (x.2.2.2 v hv).2.2) t5 t6 hd ri_m fm_m tt_m le_m hd_m sx_m e1 (show 0 < N by omega) e
        obtain ⟨ri5, m5⟩ := truth_n hO r B1
        rw [guessOf_n t2 (show 0 < 9 by omega) (Or.inr rfl) e (G := G) (by rw [if_neg (by decide)]; exact b1), if_neg (by decide), b2]
        simp only [bd7, bd2, Option.bind_some]
        rw [m5]
        exact ⟨_, _, _, rfl, rfl⟩
    · rw [fX7_off, within_n, Option.bind_some, zl1, zl2, hn, bI_f, if_pos (by decide)]
      rw [fX8_off, in_n, Option.bind_some, zl1, zl2, hn, bI_f, if_pos (by decide)]
      exact ⟨_, _, _, rfl, rfl⟩
  obtain ⟨q, ⟨A0, A1, A2, A3, A4, A5, A6, A7, A8, A9⟩, ⟨B0, B1, B2, B3, B4, B5⟩, f1, f2⟩ := fin
  exact ⟨q, A0, A1, A2, A3, A4, A5, A6, A7, A8, A9, B0, B1, B2, B3, B4, B5, f1, f2, hR0, hP, hB, hS, hG⟩
