/-! letters of the class whole, letters of the reference -/
theorem writeFrom_n {N md : Nat} {L O Hd : Nat → Nat} {ri rs li lo : Nat → Int32} (hO : netOK N L O Hd) (hm : md < 2) (h1 : ∀ j, j < 9 → ri j = rI (rvK N L 9 j)) (h2 : ∀ j, j < 9 → rs j = nI (Fq N L j)) (hl : ∀ v, v < 9 → li v = nI (L v)) (hlo : ∀ v, v < 9 → lo v = nI (O v)) {v : Nat} (hv : v < N) {ls : List (Nat × Nat)} {fm tt co : Nat → Int32} (ha : arr ls fm tt) (hc : arc O ls co) (h36 : (ls ++ (tg N md L v).map (fun u => (v, u))).length ≤ 36) : ∃ fm' tt' co', fX6_writeFrom ri rs fm tt co (nI ls.length) (nI N) (nI md) li lo (nI v) = some (fm', tt', co', nI (ls ++ (tg N md L v).map (fun u => (v, u))).length) ∧ arr (ls ++ (tg N md L v).map (fun u => (v, u))) fm' tt' ∧ arc O (ls ++ (tg N md L v).map (fun u => (v, u))) co' := by
  have hN := hO.2.1
  have hU := up_lt hO v
  have hU9 : upS N L v < 512 := Nat.lt_of_lt_of_le hU (Nat.pow_le_pow_right (by omega) hN : 2 ^ N ≤ 2 ^ 9)
  rw [fX6_writeFrom, uppers_n hO h1 h2 hl (by omega), Option.bind_some, jn1]
  by_cases e : md = 1
  · subst e
    have et : tg N 1 L v = bt (lowb (upS N L v)) 0 N := by
      rw [low_bt N (by omega) _ hU9]
      rfl
    rw [et] at h36 ⊢
    have hX : lowb (upS N L v) < 2 ^ N := Nat.lt_of_le_of_lt Nat.and_le_left hU
    obtain ⟨fm', tt', co', g1, g2, g3⟩ := wrFrom hO hlo hX hv N 0 300 ls fm tt co (by omega) (by omega) ha hc h36
    refine ⟨fm', tt', co', ?_, g2, g3⟩
    rw [if_pos (show nI 1 = (1 : Int32) from rfl), low_n _ hU9, zl0]
    dsimp only
    rw [g1]
    rfl
  · have et : tg N md L v = bt (upS N L v) 0 N := if_neg e
    rw [et] at h36 ⊢
    obtain ⟨fm', tt', co', g1, g2, g3⟩ := wrFrom hO hlo hU hv N 0 300 ls fm tt co (by omega) (by omega) ha hc h36
    refine ⟨fm', tt', co', ?_, g2, g3⟩
    rw [zl1, if_neg (fun c => e ((nI_eq (by omega) (by omega)).mp c)), zl0]
    dsimp only
    rw [g1]
    rfl
theorem wrLvl {N md : Nat} {L O Hd : Nat → Nat} {ri rs li lo : Nat → Int32} (hO : netOK N L O Hd) (hm : md < 2) (h1 : ∀ j, j < 9 → ri j = rI (rvK N L 9 j)) (h2 : ∀ j, j < 9 → rs j = nI (Fq N L j)) (hl : ∀ v, v < 9 → li v = nI (L v)) (hlo : ∀ v, v < 9 → lo v = nI (O v)) {r : Nat} (hr : r < 10) : ∀ (t k n : Nat) (ls : List (Nat × Nat)) (fm tt co : Nat → Int32), k + t = N → t < n → arr ls fm tt → arc O ls co → (ls ++ lvl N md L r k t).length ≤ 36 → ∃ fm' tt' co', fX6_writeLetters_L17 ri rs (nI N) (nI md) li lo (nI r) n (nI k) fm tt co (nI ls.length) = some (fm', tt', co', nI (ls ++ lvl N md L r k t).length) ∧ arr (ls ++ lvl N md L r k t) fm' tt' ∧ arc O (ls ++ lvl N md L r k t) co' := by
  have hN := hO.2.1
  intro t
  induction t with
  | zero =>
    intro k n ls fm tt co hk hn ha hc h36
    obtain ⟨n, rfl⟩ : ∃ z, n = z + 1 := ⟨n - 1, by omega⟩
    have e : ls ++ lvl N md L r k 0 = ls := List.append_nil ls
    rw [e]
    refine ⟨fm, tt, co, ?_, ha, hc⟩
    rw [fX6_writeLetters_L17, if_pos (nI_le (by omega) (by omega))]
  | succ t ih =>
    intro k n ls fm tt co hk hn ha hc h36
    obtain ⟨n, rfl⟩ : ∃ z, n = z + 1 := ⟨n - 1, by omega⟩
    have h9 := rv_le N L k 9
    rw [fX6_writeLetters_L17, if_neg (nI_ge (by omega) (by omega)), rdI_n (by omega) (by omega), Option.bind_some, jn4, h1 k (by omega)]
    by_cases e : rvK N L 9 k = r + 1
    · have e2 : ls ++ lvl N md L r k (t + 1) = (ls ++ (tg N md L k).map (fun u => (k, u))) ++ lvl N md L r (k + 1) t := by
        rw [lvl, if_pos e, List.append_assoc]
      rw [e2] at h36 ⊢
      obtain ⟨fm1, tt1, co1, g1, g2, g3⟩ := writeFrom_n hO hm h1 h2 hl hlo (show k < N by omega) ha hc (by rw [List.length_append] at h36; omega)
      obtain ⟨fm', tt', co', f1, f2, f3⟩ := ih (k + 1) n _ fm1 tt1 co1 (by omega) (by omega) g2 g3 h36
      refine ⟨fm', tt', co', ?_, f2, f3⟩
      rw [if_pos ((rI_e (by omega) (by omega)).mpr e), g1]
      simp only [bd4, Option.bind_some]
      rw [nI_1]
      exact f1
    · have e2 : ls ++ lvl N md L r k (t + 1) = ls ++ lvl N md L r (k + 1) t := by
        rw [lvl, if_neg e]
        rfl
      rw [e2] at h36 ⊢
      rw [if_neg (fun c => e ((rI_e (by omega) (by omega)).mp c)), nI_1]
      exact ih (k + 1) n ls fm tt co (by omega) (by omega) ha hc h36
theorem wrAll {N md : Nat} {L O Hd : Nat → Nat} {ri rs li lo : Nat → Int32} (hO : netOK N L O Hd) (hm : md < 2) (h1 : ∀ j, j < 9 → ri j = rI (rvK N L 9 j)) (h2 : ∀ j, j < 9 → rs j = nI (Fq N L j)) (hl : ∀ v, v < 9 → li v = nI (L v)) (hlo : ∀ v, v < 9 → lo v = nI (O v)) : ∀ (r n : Nat) (ls : List (Nat × Nat)) (fm tt co : Nat → Int32), r < 10 → r < n → arr ls fm tt → arc O ls co → (ls ++ allL N md L r).length ≤ 36 → ∃ fm' tt' co', fX6_writeLetters_L10 ri rs (nI N) (nI md) li lo n (nI r) fm tt co (nI ls.length) = some (fm', tt', co', nI (ls ++ allL N md L r).length) ∧ arr (ls ++ allL N md L r) fm' tt' ∧ arc O (ls ++ allL N md L r) co' := by
  have hN := hO.2.1
  intro r
  induction r with
  | zero =>
    intro n ls fm tt co hr hn ha hc h36
    obtain ⟨n, rfl⟩ : ∃ z, n = z + 1 := ⟨n - 1, by omega⟩
    have e : ls ++ allL N md L 0 = ls := List.append_nil ls
    rw [e]
    refine ⟨fm, tt, co, ?_, ha, hc⟩
    rw [fX6_writeLetters_L10, if_pos (by decide)]
  | succ r ih =>
    intro n ls fm tt co hr hn ha hc h36
    obtain ⟨n, rfl⟩ : ∃ z, n = z + 1 := ⟨n - 1, by omega⟩
    have e2 : ls ++ allL N md L (r + 1) = (ls ++ lvl N md L (r + 1) 0 N) ++ allL N md L r := by
      rw [allL, List.append_assoc]
    rw [e2] at h36 ⊢
    obtain ⟨fm1, tt1, co1, g1, g2, g3⟩ := wrLvl hO hm h1 h2 hl hlo hr N 0 300 ls fm tt co (by omega) (by omega) ha hc (by rw [List.length_append] at h36; omega)
    obtain ⟨fm', tt', co', f1, f2, f3⟩ := ih n _ fm1 tt1 co1 (by omega) (by omega) g2 g3 h36
    refine ⟨fm', tt', co', ?_, f2, f3⟩
    rw [fX6_writeLetters_L10, if_neg (show ¬ nI (r + 1) < (1 : Int32) from nI_nlt (a := r + 1) (b := 1) (by omega) (by omega)), zl0, g1]
    simp only [bd4, Option.bind_some]
    rw [pk_m1]
    exact f1
theorem lettersX {N md : Nat} {L O Hd : Nat → Nat} {ri rs li lo : Nat → Int32} (hO : netOK N L O Hd) (hm : md < 2) (h1 : ∀ j, j < 9 → ri j = rI (rvK N L 9 j)) (h2 : ∀ j, j < 9 → rs j = nI (Fq N L j)) (hl : ∀ v, v < 9 → li v = nI (L v)) (hlo : ∀ v, v < 9 → lo v = nI (O v)) (fm tt co : Nat → Int32) (le : Int32) : ∃ fm' tt' co', fX6_writeLetters ri rs (nI (grK N L 9)) fm tt co le (nI N) (nI md) li lo = some (fm', tt', co', nI (lts N md L).length) ∧ arr (lts N md L) fm' tt' ∧ arc O (lts N md L) co' := by
  have hN := hO.2.1
  have h8 : grK N L 9 ≤ 8 := gr_le N L 8
  obtain ⟨fm', tt', co', g1, g2, g3⟩ := wrAll hO hm h1 h2 hl hlo (grK N L 9) 300 [] fm tt co (by omega) (by omega) (fun i a b h => by cases h) (fun i a b h => by cases h) (by rw [List.nil_append]; exact lts_le md L hN)
  rw [List.nil_append] at g1 g2 g3
  refine ⟨fm', tt', co', ?_, g2, g3⟩
  have g1' : fX6_writeLetters_L10 ri rs (nI N) (nI md) li lo 300 (nI (grK N L 9)) fm tt co 0 = some (fm', tt', co', nI (lts N md L).length) := g1
  rw [fX6_writeLetters, g1']
  rfl
theorem sendOff {N : Nat} {w : Nat → Int32} (hN : N ≤ 9) (hw : w 0 = nI N) {X v : Nat} (hX : X < 2 ^ N) {fm tt : Nat → Int32} {le : Int32} : ∀ (t k n : Nat), k + t = N → t < n → fX8_sendFrom_L11 w (nI v) (nI X) n (nI 0) (nI k) fm tt le = some (fm, tt, le) := by
  intro t
  induction t with
  | zero =>
    intro k n hk hn
    obtain ⟨n, rfl⟩ : ∃ z, n = z + 1 := ⟨n - 1, by omega⟩
    rw [fX8_sendFrom_L11, hw, if_pos (nI_le (by omega) (by omega))]
  | succ t ih =>
    intro k n hk hn
    obtain ⟨n, rfl⟩ : ∃ z, n = z + 1 := ⟨n - 1, by omega⟩
    have g := ih (k + 1) n (by omega) (by omega)
    rw [fX8_sendFrom_L11, hw, if_neg (nI_ge (by omega) (by omega)), has_n (lt31 hN hX) (by omega), Option.bind_some, jn4, nI_1]
    cases X.testBit k
    · rw [bI_f, if_pos (by decide)]
      exact g
    · rw [bI_t, if_neg (by decide), if_pos (by decide)]
      exact g
theorem sendOn {N md : Nat} {w : Nat → Int32} (hN : N ≤ 9) (hw : w 0 = nI N) (hm : md < 2) (hw2 : w 2 = nI md) {X v : Nat} (hX : X < 2 ^ N) : ∀ (t k n : Nat) (ls : List (Nat × Nat)) (fm tt : Nat → Int32), k + t = N → t < n → arr ls fm tt → (ls ++ (if md = 1 then (bt X k t).take 1 else bt X k t).map (fun u => (v, u))).length ≤ 36 → ∃ fm' tt', fX8_sendFrom_L11 w (nI v) (nI X) n (nI 1) (nI k) fm tt (nI ls.length) = some (fm', tt', nI (ls ++ (if md = 1 then (bt X k t).take 1 else bt X k t).map (fun u => (v, u))).length) ∧ arr (ls ++ (if md = 1 then (bt X k t).take 1 else bt X k t).map (fun u => (v, u))) fm' tt' := by
  intro t
  induction t with
  | zero =>
    intro k n ls fm tt hk hn ha h36
    obtain ⟨n, rfl⟩ : ∃ z, n = z + 1 := ⟨n - 1, by omega⟩
    have e : (if md = 1 then (bt X k 0).take 1 else bt X k 0) = [] := by
      by_cases e : md = 1
      · rw [if_pos e]; rfl
      · rw [if_neg e]; rfl
    have e2 : ls ++ (if md = 1 then (bt X k 0).take 1 else bt X k 0).map (fun u => (v, u)) = ls := by
      rw [e]; exact List.append_nil ls
    rw [e2]
    refine ⟨fm, tt, ?_, ha⟩
    rw [fX8_sendFrom_L11, hw, if_pos (nI_le (by omega) (by omega))]
  | succ t ih =>
    intro k n ls fm tt hk hn ha h36
    obtain ⟨n, rfl⟩ : ∃ z, n = z + 1 := ⟨n - 1, by omega⟩
    rw [fX8_sendFrom_L11, hw, if_neg (nI_ge (by omega) (by omega)), has_n (lt31 hN hX) (by omega), Option.bind_some, jn4, nI_1]
    cases hb : X.testBit k
    · have e : bt X k (t + 1) = bt X (k + 1) t := by rw [bt, hb, if_neg (by decide)]
      rw [e] at h36 ⊢
      rw [bI_f, if_pos (by decide)]
      exact ih (k + 1) n ls fm tt (by omega) (by omega) ha h36
    · have e : bt X k (t + 1) = k :: bt X (k + 1) t := by rw [bt, hb, if_pos rfl]
      have e3 : (ls ++ [(v, k)]).length = ls.length + 1 := by rw [List.length_append]; rfl
      by_cases em : md = 1
      · subst em
        have e2 : ls ++ (if 1 = 1 then (bt X k (t + 1)).take 1 else bt X k (t + 1)).map (fun u => (v, u)) = ls ++ [(v, k)] := by
          rw [if_pos rfl, e]
          rfl
        rw [e2] at h36 ⊢
        refine ⟨_, _, ?_, arr_snoc (a := v) (b := k) ha⟩
        rw [e3] at h36 ⊢
        rw [bI_t, if_neg (by decide), if_neg (by decide), wrI_n (by omega) (by omega), Option.bind_some, wrI_n (by omega) (by omega), Option.bind_some, jn1, hw2, if_neg (by decide), nI_1]
        exact sendOff hN hw hX t (k + 1) n (by omega) (by omega)
      · have e2 : ls ++ (if md = 1 then (bt X k (t + 1)).take 1 else bt X k (t + 1)).map (fun u => (v, u)) = (ls ++ [(v, k)]) ++ (if md = 1 then (bt X (k + 1) t).take 1 else bt X (k + 1) t).map (fun u => (v, u)) := by
          rw [if_neg em, if_neg em, e, List.map_cons, List.append_assoc]
          rfl
        rw [e2] at h36 ⊢
        obtain ⟨fm', tt', g1, g2⟩ := ih (k + 1) n (ls ++ [(v, k)]) _ _ (by omega) (by omega) (arr_snoc (a := v) (b := k) ha) h36
        refine ⟨fm', tt', ?_, g2⟩
        have em0 : md = 0 := by omega
        rw [e3] at g1
        rw [List.length_append, e3] at h36
        rw [bI_t, if_neg (by decide), if_neg (by decide), wrI_n (by omega) (by omega), Option.bind_some, wrI_n (by omega) (by omega), Option.bind_some, jn1, hw2, if_pos (by rw [em0]; rfl), nI_1]
        exact g1
theorem sendFrom_n {N sal md : Nat} {L O Hd : Nat → Nat} {w ri : Nat → Int32} (hO : netOK N L O Hd) (hm : md < 2) (rw_ : rowM N sal md L O Hd w 0) (h1 : ∀ j, j < 9 → ri j = rI (rvK N L 9 j)) {v : Nat} (hv : v < N) {ls : List (Nat × Nat)} {fm tt : Nat → Int32} (ha : arr ls fm tt) (h36 : (ls ++ (tg N md L v).map (fun u => (v, u))).length ≤ 36) : ∃ fm' tt', fX8_sendFrom w ri fm tt (nI ls.length) (nI v) = some (fm', tt', nI (ls ++ (tg N md L v).map (fun u => (v, u))).length) ∧ arr (ls ++ (tg N md L v).map (fun u => (v, u))) fm' tt' := by
  have hN := hO.2.1
  obtain ⟨fm', tt', g1, g2⟩ := sendOn hN rw_.1 hm rw_.2.2.1 (up_lt hO v) N 0 300 ls fm tt (by omega) (by omega) ha h36
  refine ⟨fm', tt', ?_, g2⟩
  rw [fX8_sendFrom, upper_n hO rw_ h1 hv, Option.bind_some, zl1, zl0, g1]
  rfl
theorem sdLvl {N sal md : Nat} {L O Hd : Nat → Nat} {w ri : Nat → Int32} (hO : netOK N L O Hd) (hm : md < 2) (rw_ : rowM N sal md L O Hd w 0) (h1 : ∀ j, j < 9 → ri j = rI (rvK N L 9 j)) {r : Nat} (hr : r < 10) : ∀ (t k n : Nat) (ls : List (Nat × Nat)) (fm tt : Nat → Int32), k + t = N → t < n → arr ls fm tt → (ls ++ lvl N md L r k t).length ≤ 36 → ∃ fm' tt', fX8_layLetters_L20 w ri (nI r) n (nI k) fm tt (nI ls.length) = some (fm', tt', nI (ls ++ lvl N md L r k t).length) ∧ arr (ls ++ lvl N md L r k t) fm' tt' := by
  have hN := hO.2.1
  have hw : w 0 = nI N := rw_.1
  intro t
  induction t with
  | zero =>
    intro k n ls fm tt hk hn ha h36
    obtain ⟨n, rfl⟩ : ∃ z, n = z + 1 := ⟨n - 1, by omega⟩
    have e : ls ++ lvl N md L r k 0 = ls := List.append_nil ls
    rw [e]
    refine ⟨fm, tt, ?_, ha⟩
    rw [fX8_layLetters_L20, hw, if_pos (nI_le (by omega) (by omega))]
  | succ t ih =>
    intro k n ls fm tt hk hn ha h36
    obtain ⟨n, rfl⟩ : ∃ z, n = z + 1 := ⟨n - 1, by omega⟩
    have h9 := rv_le N L k 9
    rw [fX8_layLetters_L20, hw, if_neg (nI_ge (by omega) (by omega)), rdI_n (by omega) (by omega), Option.bind_some, jn3, h1 k (by omega)]
    by_cases e : rvK N L 9 k = r + 1
    · have e2 : ls ++ lvl N md L r k (t + 1) = (ls ++ (tg N md L k).map (fun u => (k, u))) ++ lvl N md L r (k + 1) t := by
        rw [lvl, if_pos e, List.append_assoc]
      rw [e2] at h36 ⊢
      obtain ⟨fm1, tt1, g1, g2⟩ := sendFrom_n hO hm rw_ h1 (show k < N by omega) ha (by rw [List.length_append] at h36; omega)
      obtain ⟨fm', tt', f1, f2⟩ := ih (k + 1) n _ fm1 tt1 (by omega) (by omega) g2 h36
      refine ⟨fm', tt', ?_, f2⟩
      rw [if_pos ((rI_e (by omega) (by omega)).mpr e), g1]
      simp only [bd3, Option.bind_some]
      rw [nI_1]
      exact f1
    · have e2 : ls ++ lvl N md L r k (t + 1) = ls ++ lvl N md L r (k + 1) t := by
        rw [lvl, if_neg e]
        rfl
      rw [e2] at h36 ⊢
      rw [if_neg (fun c => e ((rI_e (by omega) (by omega)).mp c)), nI_1]
      exact ih (k + 1) n ls fm tt (by omega) (by omega) ha h36
theorem sdAll {N sal md : Nat} {L O Hd : Nat → Nat} {w ri : Nat → Int32} (hO : netOK N L O Hd) (hm : md < 2) (rw_ : rowM N sal md L O Hd w 0) (h1 : ∀ j, j < 9 → ri j = rI (rvK N L 9 j)) : ∀ (r n : Nat) (ls : List (Nat × Nat)) (fm tt : Nat → Int32), r < 10 → r < n → arr ls fm tt → (ls ++ allL N md L r).length ≤ 36 → ∃ fm' tt', fX8_layLetters_L14 w ri n (nI r) fm tt (nI ls.length) = some (fm', tt', nI (ls ++ allL N md L r).length) ∧ arr (ls ++ allL N md L r) fm' tt' := by
  have hN := hO.2.1
  intro r
  induction r with
  | zero =>
    intro n ls fm tt hr hn ha h36
    obtain ⟨n, rfl⟩ : ∃ z, n = z + 1 := ⟨n - 1, by omega⟩
    have e : ls ++ allL N md L 0 = ls := List.append_nil ls
    rw [e]
    refine ⟨fm, tt, ?_, ha⟩
    rw [fX8_layLetters_L14, if_pos (by decide)]
  | succ r ih =>
    intro n ls fm tt hr hn ha h36
    obtain ⟨n, rfl⟩ : ∃ z, n = z + 1 := ⟨n - 1, by omega⟩
    have e2 : ls ++ allL N md L (r + 1) = (ls ++ lvl N md L (r + 1) 0 N) ++ allL N md L r := by
      rw [allL, List.append_assoc]
    rw [e2] at h36 ⊢
    obtain ⟨fm1, tt1, g1, g2⟩ := sdLvl hO hm rw_ h1 hr N 0 300 ls fm tt (by omega) (by omega) ha (by rw [List.length_append] at h36; omega)
    obtain ⟨fm', tt', f1, f2⟩ := ih n _ fm1 tt1 (by omega) (by omega) g2 h36
    refine ⟨fm', tt', ?_, f2⟩
    have hz : ¬ nI (r + 1) ≤ (0 : Int32) := nI_nle (by omega) (by omega)
    rw [fX8_layLetters_L14, if_neg hz, zl0, g1]
    simp only [bd3, Option.bind_some]
    rw [pk_m1]
    exact f1
theorem lettersM {N sal md : Nat} {L O Hd : Nat → Nat} {w : Nat → Int32} (hO : netOK N L O Hd) (hm : md < 2) (rw_ : rowM N sal md L O Hd w 0) (ri fm tt : Nat → Int32) (le : Int32) : ∃ ri' fm' tt', fX8_layLetters w ri fm tt le = some (ri', fm', tt', nI (lts N md L).length) ∧ (∀ j, j < 9 → ri' j = rI (rvK N L 9 j)) ∧ arr (lts N md L) fm' tt' := by
  have hN := hO.2.1
  have h8 : grK N L 9 ≤ 8 := gr_le N L 8
  obtain ⟨ri', e1, e2⟩ := layM hO rw_ ri
  obtain ⟨fm', tt', g1, g2⟩ := sdAll hO hm rw_ e2 (grK N L 9) 300 [] fm tt (by omega) (by omega) (fun i a b h => by cases h) (by rw [List.nil_append]; exact lts_le md L hN)
  rw [List.nil_append] at g1 g2
  refine ⟨ri', fm', tt', ?_, e2, g2⟩
  have g1' : fX8_layLetters_L14 w ri' 300 (nI (grK N L 9)) fm tt 0 = some (fm', tt', nI (lts N md L).length) := g1
  rw [fX8_layLetters, e1, Option.bind_some, great_n hO rw_ e2, Option.bind_some, g1']
  rfl
