/-! summaries of what a node heard -/
def good (k : Nat) (S : Int64) : Prop := k = 2 → ∃ p, cnT p ∧ S = lN (p3T p)
def mkN (sal j : Nat) : Nat := (j + 1) * (2 * sal + 1) * 40503 % 65536 / 64
theorem mk_lt (sal j : Nat) : mkN sal j < 1024 := by
  unfold mkN
  omega
theorem mark_n {sal j : Nat} (hs : sal < 65536) (hj : j < 16) : fX7_markOf (nI j) (nI sal) = some (nI (mkN sal j)) := by
  have e : ((nI j).toInt64 + (1 : Int64)) * ((2 : Int64) * (nI sal).toInt64 + (1 : Int64)) * (40503 : Int64) = lN ((j + 1) * (2 * sal + 1) * 40503) := by
    rw [nI_l (by omega), nI_l (by omega), lN_1, show (2 : Int64) = lN 2 from rfl, lN_mul, lN_1, lN_mul, show (40503 : Int64) = lN 40503 from rfl, lN_mul]
  have hb : (j + 1) * (2 * sal + 1) * 40503 < 2 ^ 63 := by
    have h1 : (j + 1) * (2 * sal + 1) ≤ 16 * 131071 := Nat.mul_le_mul (by omega) (by omega)
    omega
  have hm : (j + 1) * (2 * sal + 1) * 40503 % 65536 < 2 ^ 63 := by omega
  rw [fX7_markOf, e, show (65536 : Int64) = lN 65536 from rfl, pk_lRem hb (by omega) (by omega), show (64 : Int64) = lN 64 from rfl, pk_lDiv hm (by omega) (by omega), lN_i]
  rfl
theorem both0 (sx : Nat → Int32) (a b : Int64) : fX8_both sx (nI 0) a b = some (a + b, sx) := by
  rw [fX8_both, if_pos (by decide)]
theorem both1 {k : Nat} (h : k = 1 ∨ k = 3) (sx : Nat → Int32) (a b : Int64) : fX8_both sx (nI k) a b = some (a ||| b, sx) := by
  rcases h with rfl | rfl
  · rw [fX8_both, if_neg (by decide), if_neg (by decide)]
  · rw [fX8_both, if_neg (by decide), if_neg (by decide)]
theorem comb_n {k : Nat} (hk : k < 4) {S T : Int64} (hS : good k S) (hT : good k T) (sx : Nat → Int32) : ∃ R sx', good k R ∧ fX5_together S T (nI k) = some R ∧ fX8_both sx (nI k) S T = some (R, sx') := by
  by_cases k0 : k = 0
  · subst k0
    refine ⟨S + T, sx, fun h => by omega, ?_, both0 sx S T⟩
    rw [fX5_together, if_pos (by decide)]
  · by_cases k2 : k = 2
    · subst k2
      obtain ⟨p, hp, rfl⟩ := hS rfl
      obtain ⟨q, hq, rfl⟩ := hT rfl
      obtain ⟨sx', h3⟩ := three_n hp hq sx
      have c1 := ins_cn hp q.1
      have c2 := ins_cn c1 q.2.1
      have c3 := ins_cn c2 q.2.2
      refine ⟨_, sx', fun _ => ⟨_, c3, rfl⟩, ?_, ?_⟩
      · rw [fX5_together, if_neg (by decide), if_pos (by decide)]
        show ((fX5_first (lN (p3 q.1 q.2.1 q.2.2))).bind fun x21 => (fX5_withMark (lN (p3T p)) x21).bind fun x24 => (fX5_second (lN (p3 q.1 q.2.1 q.2.2))).bind fun x28 => (fX5_withMark x24 x28).bind fun x31 => (fX5_third (lN (p3 q.1 q.2.1 q.2.2))).bind fun x35 => (fX5_withMark x31 x35).bind fun x38 => some x38) = _
        rw [first_n hq, Option.bind_some, withMark_n hp hq.1, Option.bind_some, second_n hq, Option.bind_some, withMark_n c1 hq.2.1, Option.bind_some, third_n hq, Option.bind_some, withMark_n c2 hq.2.2.1, Option.bind_some]
      · rw [fX8_both, if_neg (by decide), if_pos (by decide), h3]
        rfl
    · have hk13 : k = 1 ∨ k = 3 := by omega
      refine ⟨S ||| T, sx, fun h => absurd h k2, ?_, both1 hk13 sx S T⟩
      rcases hk13 with rfl | rfl
      · rw [fX5_together, if_neg (by decide), if_neg (by decide)]
      · rw [fX5_together, if_neg (by decide), if_neg (by decide)]
theorem shL_n : ∀ i, i < 16 → (1 : Int64) <<< ((nI i).toInt64 &&& 63) = lN (2 ^ i) := by decide +kernel
theorem item2 (m : Nat) (hm : m < 1024) : (nI m).toInt64 + (2048000 : Int64) + (4096000000 : Int64) = lN (p3T (m, 1024, 1024)) := by
  rw [nI_l (by omega), show (2048000 : Int64) = lN 2048000 from rfl, show (4096000000 : Int64) = lN 4096000000 from rfl, lN_add, lN_add]
  rfl
theorem sum0L {w : Nat → Int32} {h : Nat} (hh : h < 65536) (sx : Nat → Int32) : ∀ (t i n : Nat), i + t = 16 → t < n → fX8_summary_L16 w (nI 0) (nI h) n (lN (fb_ct (fun j => h.testBit j) i)) (nI i) sx = some (lN (fb_ct (fun j => h.testBit j) 16), sx) := by
  intro t
  induction t with
  | zero =>
    intro i n hi hn
    obtain ⟨n, rfl⟩ : ∃ z, n = z + 1 := ⟨n - 1, by omega⟩
    have ei : i = 16 := by omega
    rw [fX8_summary_L16, if_pos (show (16 : Int32) ≤ nI i from nI_le (a := 16) (b := i) (by omega) (by omega)), ei]
  | succ t ih =>
    intro i n hi hn
    obtain ⟨n, rfl⟩ : ∃ z, n = z + 1 := ⟨n - 1, by omega⟩
    have g := ih (i + 1) n (by omega) (by omega)
    rw [fb_ct_succ] at g
    rw [fX8_summary_L16, if_neg (show ¬ (16 : Int32) ≤ nI i from nI_ge (a := i) (b := 16) (by omega) (by omega)), has_n (by omega) (by omega), Option.bind_some, jn2, nI_1]
    cases hb : h.testBit i
    · rw [hb, if_neg (by decide), Nat.add_zero] at g
      rw [bI_f, if_pos (by decide)]
      exact g
    · rw [hb, if_pos rfl] at g
      rw [bI_t, if_neg (by decide), jn1, if_pos (by decide)]
      dsimp only
      rw [both0]
      simp only [bd2, Option.bind_some]
      rw [lN_1]
      exact g
theorem sum3L {w : Nat → Int32} {h : Nat} (hh : h < 65536) (sx : Nat → Int32) : ∀ (t i n : Nat), i + t = 16 → t < n → fX8_summary_L16 w (nI 3) (nI h) n (lN (h % 2 ^ i)) (nI i) sx = some (lN (h % 2 ^ 16), sx) := by
  intro t
  induction t with
  | zero =>
    intro i n hi hn
    obtain ⟨n, rfl⟩ : ∃ z, n = z + 1 := ⟨n - 1, by omega⟩
    have ei : i = 16 := by omega
    rw [fX8_summary_L16, if_pos (show (16 : Int32) ≤ nI i from nI_le (a := 16) (b := i) (by omega) (by omega)), ei]
  | succ t ih =>
    intro i n hi hn
    obtain ⟨n, rfl⟩ : ∃ z, n = z + 1 := ⟨n - 1, by omega⟩
    have g := ih (i + 1) n (by omega) (by omega)
    have hmod : h % 2 ^ (i + 1) = h % 2 ^ i ||| (if h.testBit i = true then 2 ^ i else 0) := by
      apply Nat.eq_of_testBit_eq
      intro j
      rw [Nat.testBit_or, Nat.testBit_mod_two_pow, Nat.testBit_mod_two_pow]
      by_cases hb : h.testBit i = true
      · rw [if_pos hb, Nat.testBit_two_pow]
        by_cases e : j = i
        · subst e; rw [hb, decide_eq_true (p := j < j + 1) (by omega), decide_eq_true (p := j = j) rfl, Bool.or_true]; rfl
        · rw [decide_eq_false (p := i = j) (by omega), Bool.or_false]
          congr 1
          exact decide_eq_decide.mpr (by omega)
      · rw [if_neg hb, Nat.zero_testBit, Bool.or_false]
        by_cases e : j = i
        · subst e
          have : h.testBit j = false := by
            cases hx : h.testBit j
            · rfl
            · exact absurd hx hb
          rw [this, Bool.and_false, Bool.and_false]
        · congr 1
          exact decide_eq_decide.mpr (by omega)
    rw [fX8_summary_L16, if_neg (show ¬ (16 : Int32) ≤ nI i from nI_ge (a := i) (b := 16) (by omega) (by omega)), has_n (by omega) (by omega), Option.bind_some, jn2, nI_1]
    cases hb : h.testBit i
    · rw [hb, if_neg (by decide), Nat.or_zero] at hmod
      rw [hmod] at g
      rw [bI_f, if_pos (by decide)]
      exact g
    · rw [hb, if_pos rfl] at hmod
      rw [hmod] at g
      rw [bI_t, if_neg (by decide), jn1, if_neg (by decide), if_neg (by decide), if_neg (by decide)]
      dsimp only
      rw [both1 (Or.inr rfl), shL_n i (by omega), fb_orL]
      simp only [bd2, Option.bind_some]
      exact g
theorem sum12 {k sal : Nat} {w : Nat → Int32} {h : Nat} (hk : k = 1 ∨ k = 2) (hs : sal < 65536) (hw : w 1 = nI sal) (hh : h < 65536) : ∀ (t i n : Nat) (S : Int64) (sx : Nat → Int32), i + t = 16 → t < n → good k S → ∃ R sx', good k R ∧ fX5_ofItems_L34 (nI h) (nI k) (nI sal) n S (nI i) = some R ∧ fX8_summary_L16 w (nI k) (nI h) n S (nI i) sx = some (R, sx') := by
  intro t
  induction t with
  | zero =>
    intro i n S sx hi hn hg
    obtain ⟨n, rfl⟩ : ∃ z, n = z + 1 := ⟨n - 1, by omega⟩
    have h16 : (16 : Int32) ≤ nI i := nI_le (a := 16) (b := i) (by omega) (by omega)
    refine ⟨S, sx, hg, ?_, ?_⟩
    · rw [fX5_ofItems_L34, if_pos h16]
    · rw [fX8_summary_L16, if_pos h16]
  | succ t ih =>
    intro i n S sx hi hn hg
    obtain ⟨n, rfl⟩ : ∃ z, n = z + 1 := ⟨n - 1, by omega⟩
    have h16 : ¬ (16 : Int32) ≤ nI i := nI_ge (a := i) (b := 16) (by omega) (by omega)
    rw [fX5_ofItems_L34, if_neg h16, isIn_n (by omega) (by omega), fX8_summary_L16, if_neg h16, has_n (by omega) (by omega)]
    simp only [Option.bind_some, jn1, jn2]
    rw [nI_1]
    cases hb : h.testBit i
    · rw [bI_f, if_pos p00, if_pos p00]
      exact ih (i + 1) n S sx (by omega) (by omega) hg
    · rw [bI_t, if_neg n10, if_neg n10, mark_n hs (by omega)]
      simp only [Option.bind_some]
      have hm := mk_lt sal i
      rcases hk with rfl | rfl
      · obtain ⟨r, hr, er⟩ := rankOf_some (nI (mkN sal i))
        have er2 : fX8_rankOf w (nI i) = some (nI r) := by
          rw [rankOf_eq (by omega), hw, mark_n hs (by omega), Option.bind_some, er]
        rw [if_neg (show ¬ nI 1 = (2 : Int32) by decide), er, if_neg (show ¬ nI 1 = (0 : Int32) by decide), if_pos (show nI 1 = (1 : Int32) by decide), er2]
        simp only [Option.bind_some]
        rw [both1 (Or.inl rfl)]
        simp only [bd2, Option.bind_some]
        exact ih (i + 1) n _ sx (by omega) (by omega) (fun h => by omega)
      · obtain ⟨p, hp, rfl⟩ := hg rfl
        have hq : cnT (mkN sal i, 1024, 1024) := ⟨by show mkN sal i ≤ 1024; omega, Nat.le_refl _, Nat.le_refl _, Or.inl hm, Or.inr ⟨rfl, rfl⟩⟩
        obtain ⟨sx1, h3⟩ := three_n hp hq sx
        have h3' : fX8_threeOf sx (lN (p3T p)) (lN (p3T (mkN sal i, 1024, 1024))) = some (lN (p3T (insT p (mkN sal i))), sx1) := by
          rw [h3]
          show some (lN (p3T (insT (insT (insT p (mkN sal i)) 1024) 1024)), sx1) = _
          rw [ins_1024 (ins_cn hp _), ins_1024 (ins_cn hp _)]
        have ei : fX8_threeOfItem w (nI i) = some (lN (p3T (mkN sal i, 1024, 1024))) := by
          rw [fX8_threeOfItem, markOf_eq (by omega), hw, mark_n hs (by omega), Option.bind_some, item2 _ hm]
        have eb : fX8_both sx (nI 2) (lN (p3T p)) (lN (p3T (mkN sal i, 1024, 1024))) = some (lN (p3T (insT p (mkN sal i))), sx1) := by
          rw [fX8_both, if_neg (by decide), if_pos (by decide), h3']
          rfl
        rw [if_pos (show nI 2 = (2 : Int32) by decide), nI_l (by omega), withMark_n hp (by omega), if_neg (show ¬ nI 2 = (0 : Int32) by decide), if_neg (show ¬ nI 2 = (1 : Int32) by decide), if_pos (show nI 2 = (2 : Int32) by decide), ei]
        simp only [Option.bind_some]
        rw [eb]
        simp only [bd2, Option.bind_some]
        exact ih (i + 1) n _ sx1 (by omega) (by omega) (fun _ => ⟨_, ins_cn hp _, rfl⟩)
theorem summ_n {k sal : Nat} {w : Nat → Int32} {h : Nat} (hk : k < 4) (hs : sal < 65536) (hw : w 1 = nI sal) (hh : h < 65536) (sx : Nat → Int32) : ∃ S sx', good k S ∧ fX5_ofItems (nI h) (nI k) (nI sal) = some S ∧ fX8_summary w sx (nI k) (nI h) = some (S, sx') := by
  by_cases k0 : k = 0
  · subst k0
    refine ⟨lN (pc 16 h), sx, fun h => by omega, ?_, ?_⟩
    · have hp : pc 16 h < 2 ^ 31 := by
        have := fb_ct_le (fun i => h.testBit i) 16
        rw [← pc_ct] at this
        omega
      rw [fX5_ofItems, if_pos (by decide), bitCount_n hh, Option.bind_some, nI_l hp]
    · have g := sum0L (w := w) hh sx 16 0 300 (by omega) (by omega)
      rw [← pc_ct 16] at g
      have g' : fX8_summary_L16 w (nI 0) (nI h) 300 0 0 sx = some (lN (pc 16 h), sx) := g
      rw [fX8_summary, jn1, if_neg (by decide)]
      dsimp only
      rw [g']
      rfl
  · by_cases k3 : k = 3
    · subst k3
      refine ⟨lN h, sx, fun h => by omega, ?_, ?_⟩
      · rw [fX5_ofItems, if_neg (by decide), if_pos (by decide), nI_l (by omega)]
      · have g := sum3L (w := w) hh sx 16 0 300 (by omega) (by omega)
        rw [Nat.mod_eq_of_lt (show h < 2 ^ 16 from hh), Nat.pow_zero, Nat.mod_one] at g
        have g' : fX8_summary_L16 w (nI 3) (nI h) 300 0 0 sx = some (lN h, sx) := g
        rw [fX8_summary, jn1, if_neg (by decide)]
        dsimp only
        rw [g']
        rfl
    · have hk12 : k = 1 ∨ k = 2 := by omega
      have hg : good k (if nI k = (2 : Int32) then (4098049024 : Int64) else (0 : Int64)) := by
        intro h2
        subst h2
        exact ⟨(1024, 1024, 1024), ⟨Nat.le_refl _, Nat.le_refl _, Nat.le_refl _, Or.inr ⟨rfl, rfl⟩, Or.inr ⟨rfl, rfl⟩⟩, rfl⟩
      obtain ⟨R, sx', f1, f2, f3⟩ := sum12 hk12 hs hw hh 16 0 300 _ sx (by omega) (by omega) hg
      refine ⟨R, sx', f1, ?_, ?_⟩
      · rcases hk12 with rfl | rfl
        · have f2' : fX5_ofItems_L34 (nI h) (nI 1) (nI sal) 300 0 0 = some R := f2
          rw [fX5_ofItems, if_neg (by decide), if_neg (by decide), jn1, if_neg (by decide)]
          dsimp only
          rw [f2', Option.bind_some]
        · have f2' : fX5_ofItems_L34 (nI h) (nI 2) (nI sal) 300 4098049024 0 = some R := f2
          rw [fX5_ofItems, if_neg (by decide), if_neg (by decide), jn1, if_pos (by decide)]
          dsimp only
          rw [f2', Option.bind_some]
      · rcases hk12 with rfl | rfl
        · have f3' : fX8_summary_L16 w (nI 1) (nI h) 300 0 0 sx = some (R, sx') := f3
          rw [fX8_summary, jn1, if_neg (by decide)]
          dsimp only
          rw [f3']
          rfl
        · have f3' : fX8_summary_L16 w (nI 2) (nI h) 300 4098049024 0 sx = some (R, sx') := f3
          rw [fX8_summary, jn1, if_pos (by decide)]
          dsimp only
          rw [f3']
          rfl
/-! what the nodes hold -/
def hRel (k N : Nat) (L : Nat → Nat) (X M : Nat → Int64) (v : Nat) : Prop := (rvK N L 9 v = 0 → X v = -1) ∧ (rvK N L 9 v ≠ 0 → X v = M v ∧ good k (X v))
theorem heldL1 {k N sal md : Nat} {L O Hd : Nat → Nat} {w ri he : Nat → Int32} (hO : netOK N L O Hd) (hs : sal < 65536) (rw_ : rowM N sal md L O Hd w 0) (hk : k < 4) (h1 : ∀ j, j < 9 → ri j = rI (rvK N L 9 j)) (hh : ∀ v, v < 9 → he v = nI (Hd v)) : ∀ (t i n : Nat) (X M : Nat → Int64) (sx : Nat → Int32), i + t = N → t < n → (∀ v, v < i → hRel k N L X M v) → ∃ X' M' sx', fX6_gather_L2 ri (nI N) (nI sal) he (nI k) n (nI i) X = some X' ∧ fX8_layHeld_L6 w (nI k) n (nI i) M sx = some (M', sx') ∧ ∀ v, v < N → hRel k N L X' M' v := by
  have hN := hO.2.1
  have hw : w 0 = nI N := rw_.1
  have hw1 : w 1 = nI sal := rw_.2.1
  intro t
  induction t with
  | zero =>
    intro i n X M sx hi hn hr
    obtain ⟨n, rfl⟩ : ∃ z, n = z + 1 := ⟨n - 1, by omega⟩
    refine ⟨X, M, sx, ?_, ?_, fun v hv => hr v (by omega)⟩
    · rw [fX6_gather_L2, if_pos (nI_le (by omega) (by omega))]
    · rw [fX8_layHeld_L6, hw, if_pos (nI_le (by omega) (by omega))]
  | succ t ih =>
    intro i n X M sx hi hn hr
    obtain ⟨n, rfl⟩ : ∃ z, n = z + 1 := ⟨n - 1, by omega⟩
    have h9 := rv_le N L i 9
    have hwi : w (21 + i) = nI (Hd i) := by
      have := (rw_.2.2.2 i (by omega)).2.2
      rw [Nat.zero_add] at this
      exact this
    obtain ⟨S, sx1, g1, g2, g3⟩ := summ_n hk hs hw1 (hO.2.2.2.2.1 i) sx
    have hx : ∃ Y : Int64, (rvK N L 9 i = 0 → Y = -1) ∧ (rvK N L 9 i ≠ 0 → Y = S ∧ good k Y) ∧ fX6_gather_L2 ri (nI N) (nI sal) he (nI k) (n + 1) (nI i) X = fX6_gather_L2 ri (nI N) (nI sal) he (nI k) n (nI (i + 1)) (vp_updL X i Y) := by
      by_cases e : rvK N L 9 i = 0
      · refine ⟨-1, fun _ => rfl, fun c => absurd e c, ?_⟩
        rw [fX6_gather_L2, if_neg (nI_ge (by omega) (by omega)), rdI_n (by omega) (by omega), Option.bind_some, jn1, h1 i (by omega), if_pos ((rI_z (by omega)).mpr e)]
        dsimp only
        rw [wrL_n (by omega) (by omega), Option.bind_some, nI_1]
      · refine ⟨S, fun c => absurd c e, fun _ => ⟨rfl, g1⟩, ?_⟩
        rw [fX6_gather_L2, if_neg (nI_ge (by omega) (by omega)), rdI_n (by omega) (by omega), Option.bind_some, jn1, h1 i (by omega), if_neg (fun c => e ((rI_z (by omega)).mp c)), rdI_n (by omega) (by omega), Option.bind_some, hh i (by omega), g2, Option.bind_some]
        dsimp only
        rw [wrL_n (by omega) (by omega), Option.bind_some, nI_1]
    obtain ⟨Y, y1, y2, y3⟩ := hx
    have hm : fX8_layHeld_L6 w (nI k) (n + 1) (nI i) M sx = fX8_layHeld_L6 w (nI k) n (nI (i + 1)) (vp_updL M i S) sx1 := by
      rw [fX8_layHeld_L6, hw, if_neg (nI_ge (by omega) (by omega)), zl21, nI_add, rdI_n (by omega) (by omega), Option.bind_some, hwi, g3]
      simp only [bd2, Option.bind_some]
      rw [wrL_n (by omega) (by omega), Option.bind_some, nI_1]
    rw [y3, hm]
    refine ih (i + 1) n _ _ sx1 (by omega) (by omega) (fun v hv => ?_)
    unfold hRel
    by_cases e : v = i
    · subst e
      rw [pk_uLs, pk_uLs]
      exact ⟨y1, y2⟩
    · rw [pk_uLn e, pk_uLn e]
      exact hr v (by omega)
theorem heldL2 {k N sal md : Nat} {L O Hd : Nat → Nat} {w fm tt co fm2 tt2 : Nat → Int32} {P : List (Nat × Nat)} (hO : netOK N L O Hd) (rw_ : rowM N sal md L O Hd w 0) (hk : k < 4) (hP : ltOK N L P) (ha : arr P fm tt) (hc : arc O P co) (ha2 : arr P fm2 tt2) : ∀ (t i n : Nat) (X M : Nat → Int64) (sx : Nat → Int32), i + t = P.length → t < n → (∀ v, v < N → hRel k N L X M v) → ∃ X' M' sx', fX6_gather_L54 fm tt co (nI P.length) (nI k) n (nI i) X = some X' ∧ fX8_layHeld_L44 w fm2 tt2 (nI P.length) (nI k) n (nI i) M sx = some (M', sx') ∧ ∀ v, v < N → hRel k N L X' M' v := by
  have hN := hO.2.1
  have h36 := hP.1
  intro t
  induction t with
  | zero =>
    intro i n X M sx hi hn hr
    obtain ⟨n, rfl⟩ : ∃ z, n = z + 1 := ⟨n - 1, by omega⟩
    refine ⟨X, M, sx, ?_, ?_, hr⟩
    · rw [fX6_gather_L54, if_pos (nI_le (by omega) (by omega))]
    · rw [fX8_layHeld_L44, if_pos (nI_le (by omega) (by omega))]
  | succ t ih =>
    intro i n X M sx hi hn hr
    obtain ⟨n, rfl⟩ : ∃ z, n = z + 1 := ⟨n - 1, by omega⟩
    obtain ⟨g1, g2, g3, g4⟩ := hP.2 i (by omega)
    obtain ⟨ef, et⟩ := arr_i ha (show i < P.length by omega)
    obtain ⟨ef2, et2⟩ := arr_i ha2 (show i < P.length by omega)
    have eco : co i = bI (cmB O P i) := arc_i hc (show i < P.length by omega)
    obtain ⟨ra1, ra2⟩ := (hr _ g1).2 (by omega)
    obtain ⟨rb1, rb2⟩ := (hr _ g2).2 (by omega)
    rw [fX6_gather_L54, if_neg (nI_ge (by omega) (by omega)), rdI_n (by omega) (by omega), Option.bind_some, jn1, eco, nI_1]
    rw [fX8_layHeld_L44, if_neg (nI_ge (by omega) (by omega)), rdI_n (n := 40) (f := tt2) (i := i) (by omega) (by omega), comes_n hO rw_ hP ha2 (by omega)]
    simp only [Option.bind_some, jn2]
    rw [et2, nI_1]
    cases hcm : cmB O P i
    · rw [bI_f, if_pos p00, if_pos p00, rdL_n (by omega) (by omega), Option.bind_some, wrL_n (by omega) (by omega), Option.bind_some]
      refine ih (i + 1) n X _ sx (by omega) (by omega) (fun v hv => ?_)
      have e : vp_updL M (lB P i) (M (lB P i)) v = M v := by
        by_cases e : v = lB P i
        · rw [e, pk_uLs]
        · rw [pk_uLn e]
      unfold hRel
      rw [e]
      exact hr v hv
    · obtain ⟨R, sx1, c1, c2, c3⟩ := comb_n hk rb2 ra2 sx
      rw [bI_t, if_neg n10, if_neg n10, rdI_n (n := 36) (f := tt) (i := i) (by omega) (by omega)]
      simp only [Option.bind_some]
      rw [et, rdL_n (f := X) (i := lB P i) (by omega) (by omega), rdI_n (n := 36) (f := fm) (i := i) (by omega) (by omega)]
      simp only [Option.bind_some]
      rw [ef, rdL_n (f := X) (i := lA P i) (by omega) (by omega)]
      simp only [Option.bind_some]
      rw [c2]
      simp only [Option.bind_some]
      rw [wrL_n (f := X) (i := lB P i) (by omega) (by omega)]
      simp only [Option.bind_some]
      rw [rdL_n (f := M) (i := lB P i) (by omega) (by omega)]
      simp only [Option.bind_some]
      rw [rdI_n (n := 40) (f := fm2) (i := i) (by omega) (by omega)]
      simp only [Option.bind_some]
      rw [ef2, rdL_n (f := M) (i := lA P i) (by omega) (by omega)]
      simp only [Option.bind_some]
      rw [← ra1, ← rb1, c3]
      simp only [bd2, Option.bind_some]
      rw [wrL_n (by omega) (by omega)]
      simp only [Option.bind_some]
      refine ih (i + 1) n _ _ sx1 (by omega) (by omega) (fun v hv => ?_)
      unfold hRel
      by_cases e : v = lB P i
      · rw [e, pk_uLs, pk_uLs]
        exact ⟨fun c => by omega, fun _ => ⟨rfl, c1⟩⟩
      · rw [pk_uLn e, pk_uLn e]
        exact hr v hv
/-- both hold the same -/
theorem held_n {k N sal md : Nat} {L O Hd : Nat → Nat} {w ri fm tt co he : Nat → Int32} (hO : netOK N L O Hd) (hs : sal < 65536) (hm : md < 2) (rw_ : rowM N sal md L O Hd w 0) (hk : k < 4) (h1 : ∀ j, j < 9 → ri j = rI (rvK N L 9 j)) (hh : ∀ v, v < 9 → he v = nI (Hd v)) (ha : arr (lts N md L) fm tt) (hc : arc O (lts N md L) co) (hd : Nat → Int64) (rim fmm ttm : Nat → Int32) (lem : Int32) (hdm : Nat → Int64) (sxm : Nat → Int32) : ∃ X M ri2 fm2 tt2 sx2, fX6_gather ri fm tt co (nI (lts N md L).length) hd (nI N) (nI sal) he (nI k) = some X ∧ fX8_layHeld w rim fmm ttm lem hdm sxm (nI k) = some (ri2, fm2, tt2, nI (lts N md L).length, M, sx2) ∧ (∀ j, j < 9 → ri2 j = rI (rvK N L 9 j)) ∧ arr (lts N md L) fm2 tt2 ∧ ∀ v, v < N → hRel k N L X M v := by
  have hN := hO.2.1
  have hP := lt_ok md L hN
  obtain ⟨ri2, fm2, tt2, e1, e2, e3⟩ := lettersM hO hm rw_ rim fmm ttm lem
  obtain ⟨X1, M1, sx1, g1, g2, g3⟩ := heldL1 hO hs rw_ hk h1 hh N 0 300 hd hdm sxm (by omega) (by omega) (fun v hv => absurd hv (by omega))
  obtain ⟨X2, M2, sx2, k1, k2, k3⟩ := heldL2 hO rw_ hk hP ha hc e3 (lts N md L).length 0 300 X1 M1 sx1 (by omega) (by have := hP.1; omega) g3
  refine ⟨X2, M2, ri2, fm2, tt2, sx2, ?_, ?_, e2, e3, k3⟩
  · have g1' : fX6_gather_L2 ri (nI N) (nI sal) he (nI k) 300 0 hd = some X1 := g1
    have k1' : fX6_gather_L54 fm tt co (nI (lts N md L).length) (nI k) 300 0 X1 = some X2 := k1
    rw [fX6_gather, g1', Option.bind_some, k1', Option.bind_some]
  · have g2' : fX8_layHeld_L6 w (nI k) 300 0 hdm sxm = some (M1, sx1) := g2
    have k2' : fX8_layHeld_L44 w fm2 tt2 (nI (lts N md L).length) (nI k) 300 0 M1 sx1 = some (M2, sx2) := k2
    rw [fX8_layHeld, e1]
    simp only [bd4, Option.bind_some]
    rw [g2']
    simp only [bd2, Option.bind_some]
    rw [k2']
    rfl
