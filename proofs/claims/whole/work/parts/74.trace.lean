/-! letters by their numbers; ways; arrivals -/
def lA (P : List (Nat × Nat)) (i : Nat) : Nat := (P[i]?.getD (0, 0)).1
def lB (P : List (Nat × Nat)) (i : Nat) : Nat := (P[i]?.getD (0, 0)).2
theorem at_l {P : List (Nat × Nat)} {i : Nat} (h : i < P.length) : P[i]? = some (lA P i, lB P i) := by
  unfold lA lB
  rw [List.getElem?_eq_getElem h]
  rfl
theorem at_m {P : List (Nat × Nat)} {i : Nat} (h : i < P.length) : (lA P i, lB P i) ∈ P := List.mem_of_getElem? (at_l h)
theorem arr_i {P : List (Nat × Nat)} {fm tt : Nat → Int32} (h : arr P fm tt) {i : Nat} (hi : i < P.length) : fm i = nI (lA P i) ∧ tt i = nI (lB P i) := h i _ _ (at_l hi)
theorem arc_i {O : Nat → Nat} {P : List (Nat × Nat)} {co : Nat → Int32} (h : arc O P co) {i : Nat} (hi : i < P.length) : co i = bI (!(O (lA P i)).testBit (lB P i)) := h i _ _ (at_l hi)
def cmB (O : Nat → Nat) (P : List (Nat × Nat)) (i : Nat) : Bool := !(O (lA P i)).testBit (lB P i)
def toB (O : Nat → Nat) (P : List (Nat × Nat)) (j i : Nat) : Bool := decide (lB P i = j) && cmB O P i
/-- letters good: nodes of the net, ring below ring -/
def ltOK (N : Nat) (L : Nat → Nat) (P : List (Nat × Nat)) : Prop := P.length ≤ 36 ∧ ∀ i, i < P.length → lA P i < N ∧ lB P i < N ∧ 1 ≤ rvK N L 9 (lB P i) ∧ rvK N L 9 (lA P i) = rvK N L 9 (lB P i) + 1
theorem lt_ok {N : Nat} (md : Nat) (L : Nat → Nat) (hN : N ≤ 9) : ltOK N L (lts N md L) := by
  refine ⟨lts_le md L hN, fun i hi => ?_⟩
  have h := all_mem (at_m hi)
  exact ⟨h.1, h.2.1, (up_bit.mp h.2.2).2⟩
def wyK (O : Nat → Nat) (P : List (Nat × Nat)) : Nat → (Nat → Int32) → (Nat → Int32)
  | 0, f => f
  | k + 1, f => wyK O P k (if cmB O P k then upd f (lA P k) (f (lA P k) + f (lB P k)) else f)
theorem wyK_s (O : Nat → Nat) (P : List (Nat × Nat)) (k : Nat) (f : Nat → Int32) : wyK O P (k + 1) f = wyK O P k (if cmB O P k then upd f (lA P k) (f (lA P k) + f (lB P k)) else f) := rfl
def wy0 : Nat → Int32 := fun j => if j = 0 then 1 else 0
theorem wy_out {O : Nat → Nat} {P : List (Nat × Nat)} {j : Nat} : ∀ (k : Nat) (f : Nat → Int32), (∀ i, i < k → lA P i ≠ j) → wyK O P k f j = f j := by
  intro k
  induction k with
  | zero => intro f _; rfl
  | succ k ih =>
    intro f h
    rw [wyK, ih _ (fun i hi => h i (by omega))]
    cases cmB O P k
    · rfl
    · rw [if_pos rfl, pk_un (fun e => h k (by omega) e.symm)]
theorem rI_m1 (i : Nat) : nI i + (-1) = rI i := by
  cases i with
  | zero => rfl
  | succ i => rw [pk_m1, rI_s]
theorem nI_rI (n : Nat) : nI n - 1 = rI n := by
  cases n with
  | zero => rfl
  | succ n => rw [nI_pred, rI_s]
theorem waysXL {N : Nat} {L O : Nat → Nat} {P : List (Nat × Nat)} {fm tt co : Nat → Int32} (hN : N ≤ 9) (hP : ltOK N L P) (ha : arr P fm tt) (hc : arc O P co) : ∀ (k n : Nat) (f wa ar : Nat → Int32), k ≤ P.length → k < n → (∀ j, j < 9 → wa j = f j) → (∀ j, j < 9 → ∃ x, x + fb_ct (toB O P j) k = fb_ct (toB O P j) P.length ∧ ar j = nI x) → ∃ wa' ar', fX6_countWays_L30 fm tt co n (rI k) wa ar = some (wa', ar') ∧ (∀ j, j < 9 → wa' j = wyK O P k f j) ∧ (∀ j, j < 9 → ar' j = nI (fb_ct (toB O P j) P.length)) := by
  intro k
  induction k with
  | zero =>
    intro n f wa ar hk hn h1 h2
    obtain ⟨n, rfl⟩ : ∃ z, n = z + 1 := ⟨n - 1, by omega⟩
    refine ⟨wa, ar, ?_, h1, fun j hj => ?_⟩
    · rw [fX6_countWays_L30, if_pos (show rI 0 < 0 from by decide)]
    · obtain ⟨x, e1, e2⟩ := h2 j hj
      have e3 : x = fb_ct (toB O P j) P.length := e1
      rw [e2, e3]
  | succ k ih =>
    intro n f wa ar hk hn h1 h2
    obtain ⟨n, rfl⟩ : ∃ z, n = z + 1 := ⟨n - 1, by omega⟩
    have h36 := hP.1
    obtain ⟨g1, g2, g3, g4⟩ := hP.2 k (by omega)
    have hco := arc_i hc (show k < P.length by omega)
    obtain ⟨ef, et⟩ := arr_i ha (show k < P.length by omega)
    rw [rI_s, fX6_countWays_L30, if_neg (nI_pos (by omega)), rdI_n (by omega) (by omega), Option.bind_some, jn2, hco]
    rw [wyK_s]
    have hct : ∀ j, fb_ct (toB O P j) (k + 1) = fb_ct (toB O P j) k + (if toB O P j k then 1 else 0) := fun j => rfl
    cases hb : (O (lA P k)).testBit (lB P k)
    · have hcm : cmB O P k = true := by unfold cmB; rw [hb]; rfl
      rw [hcm, if_pos rfl, Bool.not_false, bI_t, if_neg (by decide), rdI_n (by omega) (by omega), Option.bind_some, ef, rdI_n (by omega) (by omega), Option.bind_some, rdI_n (by omega) (by omega), Option.bind_some, et, rdI_n (by omega) (by omega), Option.bind_some, wrI_n (by omega) (by omega), Option.bind_some, Option.bind_some, rdI_n (by omega) (by omega), Option.bind_some, wrI_n (by omega) (by omega), Option.bind_some, rI_m1]
      refine ih n _ _ _ (by omega) (by omega) (fun j hj => ?_) (fun j hj => ?_)
      · by_cases e : j = lA P k
        · rw [e, pk_us, pk_us, h1 _ (by omega), h1 _ (by omega)]
        · rw [pk_un e, pk_un e, h1 j hj]
      · obtain ⟨x, e1, e2⟩ := h2 j hj
        rw [hct] at e1
        by_cases e : j = lB P k
        · refine ⟨x + 1, ?_, ?_⟩
          · have : toB O P j k = true := by unfold toB; rw [hcm, decide_eq_true e.symm]; rfl
            rw [this, if_pos rfl] at e1
            omega
          · rw [← e, pk_us, e2, nI_1]
        · refine ⟨x, ?_, ?_⟩
          · have : toB O P j k = false := by unfold toB; rw [decide_eq_false (fun c => e c.symm)]; rfl
            rw [this, if_neg (by decide)] at e1
            omega
          · rw [pk_un e, e2]
    · have hcm : cmB O P k = false := by unfold cmB; rw [hb]; rfl
      rw [hcm, Bool.not_true, bI_f, if_pos (by decide), rI_m1, if_neg (by decide)]
      refine ih n f wa ar (by omega) (by omega) h1 (fun j hj => ?_)
      obtain ⟨x, e1, e2⟩ := h2 j hj
      rw [hct] at e1
      have : toB O P j k = false := by unfold toB; rw [hcm, Bool.and_false]
      rw [this, if_neg (by decide)] at e1
      exact ⟨x, by omega, e2⟩
/-- what the class's trace leaves -/
def trX (N md : Nat) (L O : Nat → Nat) (ri rs : Nat → Int32) (gr : Int32) (fm tt co : Nat → Int32) (le : Int32) (wa ar : Nat → Int32) : Prop := (∀ j, j < 9 → ri j = rI (rvK N L 9 j)) ∧ (∀ j, j < 9 → rs j = nI (Fq N L j)) ∧ gr = nI (grK N L 9) ∧ arr (lts N md L) fm tt ∧ arc O (lts N md L) co ∧ le = nI (lts N md L).length ∧ (∀ j, j < 9 → wa j = wyK O (lts N md L) (lts N md L).length wy0 j) ∧ (∀ j, j < 9 → ar j = nI (fb_ct (toB O (lts N md L) j) (lts N md L).length))
theorem trace_n {N sal md : Nat} {L O Hd : Nat → Nat} {sz sa mo : Int32} {li lo he : Nat → Int32} (hO : netOK N L O Hd) (hm : md < 2) (x : netX N sal md L O Hd sz sa mo li lo he) (ri rs : Nat → Int32) (gr : Int32) (fm tt co : Nat → Int32) (le : Int32) (wa ar : Nat → Int32) : ∃ ri' rs' gr' fm' tt' co' le' wa' ar', fX6_trace ri rs gr fm tt co le wa ar sz mo li lo = some (ri', rs', gr', fm', tt', co', le', wa', ar') ∧ trX N md L O ri' rs' gr' fm' tt' co' le' wa' ar' := by
  have hN := hO.2.1
  have hl : ∀ v, v < 9 → li v = nI (L v) := fun v hv => (x.2.2.2 v hv).1
  have hlo : ∀ v, v < 9 → lo v = nI (O v) := fun v hv => (x.2.2.2 v hv).2.1
  have hP := lt_ok md L hN
  obtain ⟨ri1, rs1, e1, e2, e3⟩ := layX hO hl ri rs gr
  obtain ⟨fm1, tt1, co1, f1, f2, f3⟩ := lettersX hO hm e2 e3 hl hlo fm tt co le
  obtain ⟨w1, g1, g2⟩ := fill_n wa 0
  obtain ⟨a1, k1, k2⟩ := fill_n ar 0
  obtain ⟨wa', ar', t1, t2, t3⟩ := waysXL hN hP f2 f3 (lts N md L).length 300 wy0 (upd w1 0 1) a1 (Nat.le_refl _) (by have := hP.1; omega) (fun j hj => by
      unfold wy0
      by_cases e : j = 0
      · rw [e, pk_us, if_pos rfl]
      · rw [pk_un e, if_neg e, g2 j hj]) (fun j hj => ⟨0, by rw [Nat.zero_add], by rw [k2 j hj]; rfl⟩)
  refine ⟨ri1, rs1, _, fm1, tt1, co1, _, wa', ar', ?_, e2, e3, rfl, f2, f3, rfl, t2, t3⟩
  rw [fX6_trace, x.1, x.2.2.1, e1]
  simp only [bd3, Option.bind_some]
  rw [f1]
  simp only [bd4, Option.bind_some]
  rw [fX6_countWays, g1, Option.bind_some, k1, Option.bind_some, nI_rI, t1]
  rfl
theorem comes_n {N sal md : Nat} {L O Hd : Nat → Nat} {w fm tt : Nat → Int32} {P : List (Nat × Nat)} (hO : netOK N L O Hd) (rw_ : rowM N sal md L O Hd w 0) (hP : ltOK N L P) (ha : arr P fm tt) {i : Nat} (hi : i < P.length) : fX8_comes w fm tt (nI i) = some (bI (cmB O P i)) := by
  have hN := hO.2.1
  have h36 := hP.1
  obtain ⟨g1, g2, g3, g4⟩ := hP.2 i hi
  obtain ⟨ef, et⟩ := arr_i ha hi
  have hw : w (12 + lA P i) = nI (O (lA P i)) := by
    have := (rw_.2.2.2 _ g1).2.1
    rw [Nat.zero_add] at this
    exact this
  rw [fX8_comes, rdI_n (by omega) (by omega), Option.bind_some, ef, zl12, nI_add, rdI_n (by omega) (by omega), Option.bind_some, hw, rdI_n (by omega) (by omega), Option.bind_some, et, has_n (lt31 hN (O_lt hO _)) (by omega), Option.bind_some]
  unfold cmB
  cases (O (lA P i)).testBit (lB P i) <;> rfl
theorem way0L : ∀ (t k n : Nat) (f : Nat → Int32), k + t = 9 → t < n → ∃ f', fX8_layWays_L6 n (nI k) f = some f' ∧ (∀ j, j < k → f' j = f j) ∧ ∀ j, k ≤ j → j < 9 → f' j = wy0 j := by
  intro t
  induction t with
  | zero =>
    intro k n f hk hn
    obtain ⟨n, rfl⟩ : ∃ z, n = z + 1 := ⟨n - 1, by omega⟩
    refine ⟨f, ?_, fun _ _ => rfl, fun j h1 h2 => absurd h2 (by omega)⟩
    rw [fX8_layWays_L6, if_pos (show (9 : Int32) ≤ nI k from nI_le (a := 9) (b := k) (by omega) (by omega))]
  | succ t ih =>
    intro k n f hk hn
    obtain ⟨n, rfl⟩ : ∃ z, n = z + 1 := ⟨n - 1, by omega⟩
    obtain ⟨f', e1, e2, e3⟩ := ih (k + 1) n (upd f k (wy0 k)) (by omega) (by omega)
    refine ⟨f', ?_, fun j hj => ?_, fun j h1 h2 => ?_⟩
    · rw [fX8_layWays_L6, if_neg (show ¬ (9 : Int32) ≤ nI k from nI_ge (a := k) (b := 9) (by omega) (by omega)), jn1]
      unfold wy0 at e1
      by_cases e : k = 0
      · subst e
        rw [if_pos rfl] at e1
        rw [if_pos (by decide)]
        dsimp only
        rw [wrI_n (by omega) (by omega), Option.bind_some, nI_1]
        exact e1
      · rw [if_neg e] at e1
        rw [if_neg (nI_ne0 (by omega) (by omega))]
        dsimp only
        rw [wrI_n (by omega) (by omega), Option.bind_some, nI_1]
        exact e1
    · rw [e2 j (by omega), pk_un (by omega)]
    · by_cases e : j = k
      · subst e; rw [e2 j (by omega), pk_us]
      · exact e3 j (by omega) h2
theorem waysML {N sal md : Nat} {L O Hd : Nat → Nat} {w fm tt : Nat → Int32} {P : List (Nat × Nat)} (hO : netOK N L O Hd) (rw_ : rowM N sal md L O Hd w 0) (hP : ltOK N L P) (ha : arr P fm tt) : ∀ (k n : Nat) (f wa : Nat → Int32), k ≤ P.length → k < n → (∀ j, j < 9 → wa j = f j) → ∃ wa', fX8_layWays_L40 w fm tt n (rI k) wa = some wa' ∧ (∀ j, j < 9 → wa' j = wyK O P k f j) := by
  have hN := hO.2.1
  intro k
  induction k with
  | zero =>
    intro n f wa hk hn h1
    obtain ⟨n, rfl⟩ : ∃ z, n = z + 1 := ⟨n - 1, by omega⟩
    refine ⟨wa, ?_, h1⟩
    rw [fX8_layWays_L40, if_pos (show rI 0 < 0 from by decide)]
  | succ k ih =>
    intro n f wa hk hn h1
    obtain ⟨n, rfl⟩ : ∃ z, n = z + 1 := ⟨n - 1, by omega⟩
    have h36 := hP.1
    obtain ⟨g1, g2, g3, g4⟩ := hP.2 k (by omega)
    obtain ⟨ef, et⟩ := arr_i ha (show k < P.length by omega)
    rw [rI_s, fX8_layWays_L40, if_neg (nI_pos (by omega)), rdI_n (by omega) (by omega), Option.bind_some, ef, rdI_n (by omega) (by omega), Option.bind_some, comes_n hO rw_ hP ha (by omega), Option.bind_some, jn1]
    rw [wyK_s]
    cases hcm : cmB O P k
    · rw [bI_f, if_pos (by decide), if_neg (by decide)]
      dsimp only
      rw [wrI_n (by omega) (by omega), Option.bind_some, rI_m1]
      refine ih n f _ (by omega) (by omega) (fun j hj => ?_)
      by_cases e : j = lA P k
      · rw [e, pk_us, Int32.add_zero, h1 _ (by omega)]
      · rw [pk_un e, h1 j hj]
    · rw [if_pos rfl, bI_t, if_neg (by decide), rdI_n (by omega) (by omega), Option.bind_some, et, rdI_n (by omega) (by omega), Option.bind_some]
      dsimp only
      rw [wrI_n (by omega) (by omega), Option.bind_some, rI_m1]
      refine ih n _ _ (by omega) (by omega) (fun j hj => ?_)
      by_cases e : j = lA P k
      · rw [e, pk_us, pk_us, h1 _ (by omega), h1 _ (by omega)]
      · rw [pk_un e, pk_un e, h1 j hj]
/-- what the reference's ways leave -/
theorem waysM {N sal md : Nat} {L O Hd : Nat → Nat} {w : Nat → Int32} (hO : netOK N L O Hd) (hm : md < 2) (rw_ : rowM N sal md L O Hd w 0) (ri fm tt : Nat → Int32) (le : Int32) (wa : Nat → Int32) : ∃ ri' fm' tt' wa', fX8_layWays w ri fm tt le wa = some (ri', fm', tt', nI (lts N md L).length, wa') ∧ (∀ j, j < 9 → ri' j = rI (rvK N L 9 j)) ∧ arr (lts N md L) fm' tt' ∧ (∀ j, j < 9 → wa' j = wyK O (lts N md L) (lts N md L).length wy0 j) := by
  have hN := hO.2.1
  have hP := lt_ok md L hN
  obtain ⟨ri1, fm1, tt1, e1, e2, e3⟩ := lettersM hO hm rw_ ri fm tt le
  obtain ⟨f', g1, _, g3⟩ := way0L 9 0 300 wa (by omega) (by omega)
  obtain ⟨wa', t1, t2⟩ := waysML hO rw_ hP e3 (lts N md L).length 300 wy0 f' (Nat.le_refl _) (by have := hP.1; omega) (fun j hj => g3 j (by omega) hj)
  refine ⟨ri1, fm1, tt1, wa', ?_, e2, e3, t2⟩
  rw [fX8_layWays, e1]
  simp only [bd4, Option.bind_some]
  have g1' : fX8_layWays_L6 300 0 wa = some f' := g1
  rw [g1', Option.bind_some, nI_rI, t1, Option.bind_some]
theorem toL {N sal md : Nat} {L O Hd : Nat → Nat} {w fm tt : Nat → Int32} {P : List (Nat × Nat)} (hO : netOK N L O Hd) (rw_ : rowM N sal md L O Hd w 0) (hP : ltOK N L P) (ha : arr P fm tt) {v : Nat} (hv : v < N) : ∀ (t k n : Nat), k + t = P.length → t < n → fX8_lettersTo_L8 w fm tt (nI P.length) (nI v) n (nI (fb_ct (toB O P v) k)) (nI k) = some (nI (fb_ct (toB O P v) P.length)) := by
  have hN := hO.2.1
  have h36 := hP.1
  intro t
  induction t with
  | zero =>
    intro k n hk hn
    obtain ⟨n, rfl⟩ : ∃ z, n = z + 1 := ⟨n - 1, by omega⟩
    have e : k = P.length := by omega
    rw [fX8_lettersTo_L8, if_pos (nI_le (by omega) (by omega)), e]
  | succ t ih =>
    intro k n hk hn
    obtain ⟨n, rfl⟩ : ∃ z, n = z + 1 := ⟨n - 1, by omega⟩
    obtain ⟨g1, g2, g3, g4⟩ := hP.2 k (by omega)
    obtain ⟨ef, et⟩ := arr_i ha (show k < P.length by omega)
    have g := ih (k + 1) n (by omega) (by omega)
    rw [fb_ct_succ] at g
    rw [fX8_lettersTo_L8, if_neg (nI_ge (by omega) (by omega)), rdI_n (by omega) (by omega), Option.bind_some, jn1, jn0, et, nI_1, zl1, zl0]
    by_cases e : lB P k = v
    · rw [if_pos (by rw [e]), comes_n hO rw_ hP ha (by omega), Option.bind_some]
      cases hcm : cmB O P k
      · have : toB O P v k = false := by unfold toB; rw [hcm, Bool.and_false]
        rw [this, if_neg (by decide), Nat.add_zero] at g
        rw [bI_f, if_pos rfl]
        dsimp only
        rw [nI_add, Nat.add_zero]
        exact g
      · have : toB O P v k = true := by unfold toB; rw [hcm, decide_eq_true e]; rfl
        rw [this, if_pos rfl] at g
        rw [bI_t, if_neg (by decide)]
        dsimp only
        rw [nI_add]
        exact g
    · have : toB O P v k = false := by unfold toB; rw [decide_eq_false e]; rfl
      rw [this, if_neg (by decide), Nat.add_zero] at g
      rw [if_neg (fun c => e ((nI_eq (by omega) (by omega)).mp c))]
      dsimp only
      rw [nI_add, Nat.add_zero]
      exact g
theorem lettersTo_n {N sal md : Nat} {L O Hd : Nat → Nat} {w : Nat → Int32} (hO : netOK N L O Hd) (hm : md < 2) (rw_ : rowM N sal md L O Hd w 0) (ri fm tt : Nat → Int32) (le : Int32) {v : Nat} (hv : v < N) : ∃ ri' fm' tt' le', fX8_lettersTo w ri fm tt le (nI v) = some (nI (fb_ct (toB O (lts N md L) v) (lts N md L).length), ri', fm', tt', le') := by
  have hN := hO.2.1
  have hP := lt_ok md L hN
  obtain ⟨ri1, fm1, tt1, e1, e2, e3⟩ := lettersM hO hm rw_ ri fm tt le
  refine ⟨ri1, fm1, tt1, nI (lts N md L).length, ?_⟩
  rw [fX8_lettersTo, e1]
  simp only [bd4, Option.bind_some]
  have g := toL hO rw_ hP e3 hv (lts N md L).length 0 300 (by omega) (by have := hP.1; omega)
  have g' : fX8_lettersTo_L8 w fm1 tt1 (nI (lts N md L).length) (nI v) 300 0 0 = some (nI (fb_ct (toB O (lts N md L) v) (lts N md L).length)) := g
  rw [g', Option.bind_some]
theorem lostL {N sal md : Nat} {L O Hd : Nat → Nat} {w fm tt : Nat → Int32} {P : List (Nat × Nat)} (hO : netOK N L O Hd) (rw_ : rowM N sal md L O Hd w 0) (hP : ltOK N L P) (ha : arr P fm tt) : ∀ (t k n : Nat), k + t = P.length → t < n → fX8_lostLetters_L8 w fm tt (nI P.length) n (nI (fb_ct (fun i => !cmB O P i) k)) (nI k) = some (nI (fb_ct (fun i => !cmB O P i) P.length)) := by
  have h36 := hP.1
  intro t
  induction t with
  | zero =>
    intro k n hk hn
    obtain ⟨n, rfl⟩ : ∃ z, n = z + 1 := ⟨n - 1, by omega⟩
    have e : k = P.length := by omega
    rw [fX8_lostLetters_L8, if_pos (nI_le (by omega) (by omega)), e]
  | succ t ih =>
    intro k n hk hn
    obtain ⟨n, rfl⟩ : ∃ z, n = z + 1 := ⟨n - 1, by omega⟩
    have g := ih (k + 1) n (by omega) (by omega)
    rw [fb_ct_succ] at g
    rw [fX8_lostLetters_L8, if_neg (nI_ge (by omega) (by omega)), comes_n hO rw_ hP ha (by omega), Option.bind_some, jn1, nI_1, zl1, zl0]
    cases hcm : cmB O P k
    · rw [hcm, Bool.not_false, if_pos rfl] at g
      rw [bI_f, if_pos rfl]
      dsimp only
      rw [nI_add]
      exact g
    · rw [hcm, Bool.not_true, if_neg (by decide), Nat.add_zero] at g
      rw [bI_t, if_neg (by decide)]
      dsimp only
      rw [nI_add, Nat.add_zero]
      exact g
theorem to_sum {N : Nat} {L O : Nat → Nat} {P : List (Nat × Nat)} (hN : N ≤ 9) (hP : ltOK N L P) : fb_sm (fun j => fb_ct (toB O P j) P.length) 9 = fb_ct (cmB O P) P.length := by
  have e1 : fb_sm (fun j => fb_ct (toB O P j) P.length) 9 = fb_sm (fun j => fb_sm (fun i => if toB O P j i then 1 else 0) P.length) 9 := by
    apply fb_sm_cong
    intro j _
    exact ct_sm _ _
  rw [e1, fb_sw (fun j i => if toB O P j i then 1 else 0) P.length, ct_sm]
  apply fb_sm_cong
  intro i hi
  show fb_sm (fun j => if toB O P j i then 1 else 0) 9 = if cmB O P i then 1 else 0
  obtain ⟨g1, g2, g3, g4⟩ := hP.2 i hi
  cases hcm : cmB O P i
  · rw [if_neg (by decide)]
    have : fb_sm (fun j => if toB O P j i then 1 else 0) 9 = fb_sm (fun _ => 0) 9 := by
      apply fb_sm_cong
      intro j _
      show (if toB O P j i then 1 else 0) = 0
      unfold toB
      rw [hcm, Bool.and_false, if_neg (by decide)]
    rw [this, fb_sm_const]
  · rw [if_pos rfl]
    have : fb_sm (fun j => if toB O P j i then 1 else 0) 9 = fb_sm (fun j => if j = lB P i then 1 else 0) 9 := by
      apply fb_sm_cong
      intro j _
      show (if toB O P j i then 1 else 0) = if j = lB P i then 1 else 0
      unfold toB
      rw [hcm, Bool.and_true]
      by_cases e : lB P i = j
      · rw [decide_eq_true e, if_pos rfl, if_pos e.symm]
      · rw [decide_eq_false e, if_neg (by decide), if_neg (fun c => e c.symm)]
    have h2 : fb_sm (fun j => if j = lB P i then 1 else 0) 9 + 0 = fb_sm (fun _ => 0) 9 + 1 := fb_sm_upd (fun _ => 0) 1 (show lB P i < 9 by omega)
    have h3 := fb_sm_const 0 9
    rw [this]
    omega
theorem arrivalsL {ar : Nat → Int32} {g : Nat → Nat} (h : ∀ j, j < 9 → ar j = nI (g j)) : ∀ (t k n : Nat), k + t = 9 → t < n → fX6_allArrivals_L13 ar (nI 9) n (nI (fb_sm g k)) (nI k) = some (nI (fb_sm g 9)) := by
  intro t
  induction t with
  | zero =>
    intro k n hk hn
    obtain ⟨n, rfl⟩ : ∃ z, n = z + 1 := ⟨n - 1, by omega⟩
    have e : k = 9 := by omega
    rw [fX6_allArrivals_L13, if_pos (nI_le (by omega) (by omega)), e]
  | succ t ih =>
    intro k n hk hn
    obtain ⟨n, rfl⟩ : ∃ z, n = z + 1 := ⟨n - 1, by omega⟩
    rw [fX6_allArrivals_L13, if_neg (nI_ge (by omega) (by omega)), rdI_n (by omega) (by omega), Option.bind_some, h k (by omega), nI_add, nI_1]
    exact ih (k + 1) n (by omega) (by omega)
theorem arrivals_n {ar : Nat → Int32} {g : Nat → Nat} (h : ∀ j, j < 9 → ar j = nI (g j)) : fX6_allArrivals ar = some (nI (fb_sm g 9)) := by
  have e := arrivalsL h 9 0 300 (by omega) (by omega)
  have e' : fX6_allArrivals_L13 ar 9 300 0 0 = some (nI (fb_sm g 9)) := e
  rw [fX6_allArrivals, e', Option.bind_some]
/-- whose hearing comes -/
def cmK (f : Nat → Int32) : Nat → Int32
  | 0 => 0
  | k + 1 => if f k < 1 then cmK f k else cmK f k ||| ((1 : Int32) <<< (nI k &&& 31))
theorem lt1_le0 (x : Int32) : x < 1 ↔ x ≤ 0 := by
  rw [Int32.lt_iff_toInt_lt, Int32.le_iff_toInt_le]
  have h1 : (1 : Int32).toInt = 1 := by decide
  have h0 : (0 : Int32).toInt = 0 := by decide
  omega
theorem comersL {wa f : Nat → Int32} (h : ∀ j, j < 9 → wa j = f j) : ∀ (t k n : Nat), k + t = 9 → t < n → fX6_comers_L4 wa n (cmK f k) (nI k) = some (cmK f 9) := by
  intro t
  induction t with
  | zero =>
    intro k n hk hn
    obtain ⟨n, rfl⟩ : ∃ z, n = z + 1 := ⟨n - 1, by omega⟩
    have e : k = 9 := by omega
    rw [fX6_comers_L4, if_pos (show (9 : Int32) ≤ nI k from nI_le (a := 9) (b := k) (by omega) (by omega)), e]
  | succ t ih =>
    intro k n hk hn
    obtain ⟨n, rfl⟩ : ∃ z, n = z + 1 := ⟨n - 1, by omega⟩
    have g := ih (k + 1) n (by omega) (by omega)
    rw [cmK] at g
    rw [fX6_comers_L4, if_neg (show ¬ (9 : Int32) ≤ nI k from nI_ge (a := k) (b := 9) (by omega) (by omega)), rdI_n (by omega) (by omega), Option.bind_some, h k (by omega), jn1, nI_1]
    by_cases e : f k < 1
    · rw [if_pos e] at g ⊢
      exact g
    · rw [if_neg e] at g ⊢
      exact g
theorem comesSL {N : Nat} {w wa f : Nat → Int32} (hN : N ≤ 9) (hw : w 0 = nI N) (h : ∀ j, j < 9 → wa j = f j) : ∀ (t k n : Nat), k + t = N → t < n → fX8_comesSet_L8 w wa n (cmK f k) (nI k) = some (cmK f N) := by
  intro t
  induction t with
  | zero =>
    intro k n hk hn
    obtain ⟨n, rfl⟩ : ∃ z, n = z + 1 := ⟨n - 1, by omega⟩
    have e : k = N := by omega
    rw [fX8_comesSet_L8, hw, if_pos (nI_le (by omega) (by omega)), e]
  | succ t ih =>
    intro k n hk hn
    obtain ⟨n, rfl⟩ : ∃ z, n = z + 1 := ⟨n - 1, by omega⟩
    have g := ih (k + 1) n (by omega) (by omega)
    rw [cmK] at g
    rw [fX8_comesSet_L8, hw, if_neg (nI_ge (by omega) (by omega)), rdI_n (by omega) (by omega), Option.bind_some, h k (by omega), jn1, nI_1]
    by_cases e : f k < 1
    · rw [if_pos e] at g
      rw [if_pos ((lt1_le0 _).mp e)]
      dsimp only
      rw [Int32.or_zero]
      exact g
    · rw [if_neg e] at g
      rw [if_neg (fun c => e ((lt1_le0 _).mpr c))]
      exact g
theorem cmK_st {f : Nat → Int32} {N : Nat} (h : ∀ j, N ≤ j → j < 9 → f j = 0) : ∀ k, N ≤ k → k ≤ 9 → cmK f k = cmK f N := by
  intro k
  induction k with
  | zero => intro h1 _; rw [show N = 0 by omega]
  | succ k ih =>
    intro h1 h2
    by_cases e : N = k + 1
    · rw [e]
    · rw [cmK, h k (by omega) (by omega), if_pos (by decide)]
      exact ih (by omega) (by omega)
theorem wy_z {N : Nat} {L O : Nat → Nat} {P : List (Nat × Nat)} (h1 : 1 ≤ N) (hP : ltOK N L P) {j : Nat} (hj : N ≤ j) : wyK O P P.length wy0 j = 0 := by
  rw [wy_out P.length wy0 (fun i hi => by have := (hP.2 i hi).1; omega)]
  unfold wy0
  rw [if_neg (by omega)]
