/-! the three least: packed, one more, both -/
theorem cmp0 (x y : Int64) : lg_cmp x y = 0 ↔ x = y := by
  unfold lg_cmp
  by_cases h : x > y
  · rw [if_pos h]
    refine ⟨fun c => absurd c (by decide), fun c => ?_⟩
    have h1 : y.toInt < x.toInt := (fa_lt64 y x).mp h
    rw [c] at h1
    omega
  · rw [if_neg h]
    by_cases e : x = y
    · rw [if_pos e]; exact ⟨fun _ => e, fun _ => rfl⟩
    · rw [if_neg e]; exact ⟨fun c => absurd c (by decide), fun c => absurd c e⟩
theorem cmpL (x y : Int64) : lg_cmp x y < 0 ↔ x < y := by
  unfold lg_cmp
  by_cases h : x > y
  · rw [if_pos h]
    refine ⟨fun c => absurd c (by decide), fun c => ?_⟩
    have h1 : y.toInt < x.toInt := (fa_lt64 y x).mp h
    have h2 := (fa_lt64 x y).mp c
    omega
  · rw [if_neg h]
    by_cases e : x = y
    · rw [if_pos e]
      refine ⟨fun c => absurd c (by decide), fun c => ?_⟩
      have h2 := (fa_lt64 x y).mp c
      rw [e] at h2
      omega
    · rw [if_neg e]
      refine ⟨fun _ => ?_, fun _ => by decide⟩
      apply (fa_lt64 x y).mpr
      have h1 : ¬ y.toInt < x.toInt := fun c => h ((fa_lt64 y x).mpr c)
      have h2 : ¬ x.toInt = y.toInt := fun c => e ((fa_eq64 x y).mpr c)
      omega
theorem cmpG (x y : Int64) : 0 ≤ lg_cmp x y ↔ ¬ x < y := by
  rw [← cmpL, fa_le, fa_lt]
  have : (0 : Int32).toInt = 0 := by decide
  omega
def p3 (a b c : Nat) : Nat := a + 2000 * b + 4000000 * c
def p3T (p : Nat × Nat × Nat) : Nat := p3 p.1 p.2.1 p.2.2
def cn (a b c : Nat) : Prop := a ≤ 1024 ∧ b ≤ 1024 ∧ c ≤ 1024 ∧ (a < b ∨ (a = 1024 ∧ b = 1024)) ∧ (b < c ∨ (b = 1024 ∧ c = 1024))
def cnT (p : Nat × Nat × Nat) : Prop := cn p.1 p.2.1 p.2.2
theorem first_n {a b c : Nat} (h : cn a b c) : fX5_first (lN (p3 a b c)) = some (lN a) := by
  obtain ⟨h1, h2, h3, _, _⟩ := h
  rw [fX5_first, show (2000 : Int64) = lN 2000 from rfl, pk_lRem (by unfold p3; omega) (by omega) (by omega)]
  congr 2
  unfold p3
  omega
theorem second_n {a b c : Nat} (h : cn a b c) : fX5_second (lN (p3 a b c)) = some (lN b) := by
  obtain ⟨h1, h2, h3, _, _⟩ := h
  rw [fX5_second, show (2000 : Int64) = lN 2000 from rfl, pk_lDiv (by unfold p3; omega) (by omega) (by omega), pk_lRem (by unfold p3; omega) (by omega) (by omega)]
  congr 2
  unfold p3
  omega
theorem third_n {a b c : Nat} (h : cn a b c) : fX5_third (lN (p3 a b c)) = some (lN c) := by
  obtain ⟨h1, h2, h3, _, _⟩ := h
  rw [fX5_third, show (4000000 : Int64) = lN 4000000 from rfl, pk_lDiv (by unfold p3; omega) (by omega) (by omega)]
  congr 2
  unfold p3
  omega
def ins (a b c m : Nat) : Nat × Nat × Nat := if m = a then (a, b, c) else if m = b then (a, b, c) else if m < c then (if ¬ m < a then (if ¬ m < b then (a, b, m) else (a, m, b)) else (m, a, b)) else (a, b, c)
def insT (p : Nat × Nat × Nat) (m : Nat) : Nat × Nat × Nat := ins p.1 p.2.1 p.2.2 m
theorem pk_3 (a b c : Nat) : lN a + (2000 : Int64) * lN b + (4000000 : Int64) * lN c = lN (p3 a b c) := by
  rw [show (2000 : Int64) = lN 2000 from rfl, show (4000000 : Int64) = lN 4000000 from rfl, lN_mul, lN_mul, lN_add, lN_add]
  rfl
theorem withMark_n {p : Nat × Nat × Nat} {m : Nat} (h : cnT p) (hm : m ≤ 1024) : fX5_withMark (lN (p3T p)) (lN m) = some (lN (p3T (insT p m))) := by
  obtain ⟨a, b, c⟩ := p
  have h' : cn a b c := h
  show fX5_withMark (lN (p3 a b c)) (lN m) = some (lN (p3T (ins a b c m)))
  rw [fX5_withMark, first_n h', Option.bind_some, second_n h', Option.bind_some, third_n h', Option.bind_some, jn0]
  obtain ⟨h1, h2, h3, _, _⟩ := h'
  have q1 : lg_cmp (lN m) (lN a) = 0 ↔ m = a := by rw [cmp0, pk_lEQ (by omega) (by omega)]
  have q2 : lg_cmp (lN m) (lN b) = 0 ↔ m = b := by rw [cmp0, pk_lEQ (by omega) (by omega)]
  have q3 : lg_cmp (lN m) (lN c) < 0 ↔ m < c := by rw [cmpL, pk_lLT (by omega) (by omega)]
  have q4 : 0 ≤ lg_cmp (lN m) (lN a) ↔ ¬ m < a := by rw [cmpG, pk_lLT (by omega) (by omega)]
  have q5 : 0 ≤ lg_cmp (lN m) (lN b) ↔ ¬ m < b := by rw [cmpG, pk_lLT (by omega) (by omega)]
  unfold ins
  by_cases e1 : m = a
  · rw [if_pos (q1.mpr e1), if_pos e1]; rfl
  rw [if_neg (fun c => e1 (q1.mp c)), if_neg e1]
  by_cases e2 : m = b
  · rw [if_pos (q2.mpr e2), if_pos e2]; rfl
  rw [if_neg (fun c => e2 (q2.mp c)), if_neg e2]
  by_cases e3 : m < c
  · rw [if_pos (q3.mpr e3), if_pos e3]
    by_cases e4 : ¬ m < a
    · rw [if_pos (q4.mpr e4), if_pos e4]
      by_cases e5 : ¬ m < b
      · rw [if_pos (q5.mpr e5), if_pos e5, pk_3]; rfl
      · rw [if_neg (fun c => e5 (q5.mp c)), if_neg e5, pk_3]; rfl
    · rw [if_neg (fun c => e4 (q4.mp c)), if_neg e4, pk_3]; rfl
  · rw [if_neg (fun c => e3 (q3.mp c)), if_neg e3]; rfl
def la1 (t v x : Nat) : Nat := if x < t then v else if v ≤ x then v else x
def laK (t : Nat) (e : Nat → Nat) : Nat → Nat
  | 0 => 1024
  | k + 1 => la1 t (laK t e k) (e k)
theorem la1_le (t v x : Nat) : la1 t v x ≤ v := by
  unfold la1
  by_cases h : x < t
  · rw [if_pos h]; exact Nat.le_refl v
  · rw [if_neg h]
    by_cases h2 : v ≤ x
    · rw [if_pos h2]; exact Nat.le_refl v
    · rw [if_neg h2]; omega
theorem la_le (t : Nat) (e : Nat → Nat) : ∀ n, laK t e n ≤ 1024 := by
  intro n
  induction n with
  | zero => exact Nat.le_refl _
  | succ n ih => exact Nat.le_trans (la1_le _ _ _) ih
theorem la_ge {t : Nat} (ht : t ≤ 1024) (e : Nat → Nat) : ∀ n, t ≤ laK t e n := by
  intro n
  induction n with
  | zero => exact ht
  | succ n ih =>
    rw [laK]
    unfold la1
    by_cases h : e n < t
    · rw [if_pos h]; exact ih
    · rw [if_neg h]
      by_cases h2 : laK t e n ≤ e n
      · rw [if_pos h2]; exact ih
      · rw [if_neg h2]; omega
theorem la_top {t : Nat} (ht : 1024 ≤ t) (e : Nat → Nat) : ∀ n, laK t e n = 1024 := by
  intro n
  induction n with
  | zero => rfl
  | succ n ih =>
    rw [laK, ih]
    unfold la1
    by_cases h : e n < t
    · rw [if_pos h]
    · rw [if_neg h, if_pos (by omega)]
theorem la_mono {t s : Nat} (h : t ≤ s) (e : Nat → Nat) : ∀ n, s ≤ laK t e n → laK s e n = laK t e n := by
  intro n
  induction n with
  | zero => intro _; rfl
  | succ n ih =>
    intro hs
    have h1 : laK t e (n + 1) = la1 t (laK t e n) (e n) := rfl
    have h2 : laK s e (n + 1) = la1 s (laK s e n) (e n) := rfl
    have h3 := la1_le t (laK t e n) (e n)
    rw [h1] at hs
    rw [h1, h2, ih (by omega)]
    unfold la1 at hs ⊢
    by_cases g1 : e n < t
    · rw [if_pos g1, if_pos (by omega)]
    · rw [if_neg g1] at hs ⊢
      by_cases g2 : e n < s
      · rw [if_pos g2]
        by_cases g3 : laK t e n ≤ e n
        · rw [if_pos g3]
        · rw [if_neg g3] at hs; omega
      · rw [if_neg g2]
def la3 (e : Nat → Nat) (n : Nat) : Nat × Nat × Nat := (laK 0 e n, laK (laK 0 e n + 1) e n, laK (laK (laK 0 e n + 1) e n + 1) e n)
theorem la3_cn (e : Nat → Nat) (n : Nat) : cnT (la3 e n) := by
  have h1 := la_le 0 e n
  have h2 := la_le (laK 0 e n + 1) e n
  have h3 := la_le (laK (laK 0 e n + 1) e n + 1) e n
  refine ⟨h1, h2, h3, ?_, ?_⟩
  · show laK 0 e n < laK (laK 0 e n + 1) e n ∨ _
    by_cases g : laK 0 e n = 1024
    · right
      exact ⟨g, la_top (by omega) e n⟩
    · left
      have := la_ge (show laK 0 e n + 1 ≤ 1024 by omega) e n
      omega
  · show laK (laK 0 e n + 1) e n < laK (laK (laK 0 e n + 1) e n + 1) e n ∨ _
    by_cases g : laK (laK 0 e n + 1) e n = 1024
    · right
      exact ⟨g, la_top (by omega) e n⟩
    · left
      have := la_ge (show laK (laK 0 e n + 1) e n + 1 ≤ 1024 by omega) e n
      omega
theorem la3_s (e : Nat → Nat) (n : Nat) : la3 e (n + 1) = insT (la3 e n) (e n) := by
  obtain ⟨r1, h1⟩ : ∃ r, laK 0 e n = r := ⟨_, rfl⟩
  obtain ⟨r2, h2⟩ : ∃ r, laK (r1 + 1) e n = r := ⟨_, rfl⟩
  obtain ⟨r3, h3⟩ : ∃ r, laK (r2 + 1) e n = r := ⟨_, rfl⟩
  have e0 : la3 e n = (r1, r2, r3) := by
    unfold la3
    rw [h1, h2, h3]
  have hc : cn r1 r2 r3 := by
    have := la3_cn e n
    rw [e0] at this
    exact this
  obtain ⟨c1, c2, c3, c4, c5⟩ := hc
  obtain ⟨x, hx⟩ : ∃ y, e n = y := ⟨_, rfl⟩
  have st : ∀ t, laK t e (n + 1) = la1 t (laK t e n) x := fun t => by rw [← hx]; rfl
  rw [e0, hx]
  show la3 e (n + 1) = ins r1 r2 r3 x
  unfold la3
  rcases Nat.lt_trichotomy x r1 with g | g | g
  · have s1 : laK 0 e (n + 1) = x := by
      rw [st, h1]
      unfold la1
      rw [if_neg (by omega), if_neg (by omega)]
    have m1 : laK (x + 1) e n = r1 := by
      rw [← h1]
      exact la_mono (by omega) e n (by omega)
    have s2 : laK (x + 1) e (n + 1) = r1 := by
      rw [st, m1]
      exact if_pos (by omega)
    have s3 : laK (r1 + 1) e (n + 1) = r2 := by
      rw [st, h2]
      exact if_pos (by omega)
    rw [s1, s2, s3]
    unfold ins
    rw [if_neg (by omega), if_neg (by omega), if_pos (by omega), if_neg (by omega)]
  · have s1 : laK 0 e (n + 1) = r1 := by
      rw [st, h1]
      unfold la1
      rw [if_neg (by omega), if_pos (by omega)]
    have s2 : laK (r1 + 1) e (n + 1) = r2 := by
      rw [st, h2]
      exact if_pos (by omega)
    have s3 : laK (r2 + 1) e (n + 1) = r3 := by
      rw [st, h3]
      exact if_pos (by omega)
    rw [s1, s2, s3]
    unfold ins
    rw [if_pos g]
  · have s1 : laK 0 e (n + 1) = r1 := by
      rw [st, h1]
      unfold la1
      rw [if_neg (by omega), if_pos (by omega)]
    rw [s1]
    rcases Nat.lt_trichotomy x r2 with g2 | g2 | g2
    · have s2 : laK (r1 + 1) e (n + 1) = x := by
        rw [st, h2]
        unfold la1
        rw [if_neg (by omega), if_neg (by omega)]
      have m1 : laK (x + 1) e n = r2 := by
        rw [← h2]
        exact la_mono (by omega) e n (by omega)
      have s3 : laK (x + 1) e (n + 1) = r2 := by
        rw [st, m1]
        exact if_pos (by omega)
      rw [s2, s3]
      unfold ins
      rw [if_neg (by omega), if_neg (by omega), if_pos (by omega), if_pos (by omega), if_neg (by omega)]
    · have s2 : laK (r1 + 1) e (n + 1) = r2 := by
        rw [st, h2]
        unfold la1
        rw [if_neg (by omega), if_pos (by omega)]
      have s3 : laK (r2 + 1) e (n + 1) = r3 := by
        rw [st, h3]
        exact if_pos (by omega)
      rw [s2, s3]
      unfold ins
      rw [if_neg (by omega), if_pos g2]
    · have s2 : laK (r1 + 1) e (n + 1) = r2 := by
        rw [st, h2]
        unfold la1
        rw [if_neg (by omega), if_pos (by omega)]
      rw [s2, st, h3]
      unfold la1 ins
      rw [if_neg (show ¬ x < r2 + 1 by omega), if_neg (show ¬ x = r1 by omega), if_neg (show ¬ x = r2 by omega)]
      by_cases g3 : x < r3
      · rw [if_neg (show ¬ r3 ≤ x by omega), if_pos g3, if_pos (show ¬ x < r1 by omega), if_pos (show ¬ x < r2 by omega)]
      · rw [if_pos (show r3 ≤ x by omega), if_neg g3]
theorem in3 {a b c : Nat} (h : cn a b c) : insT (insT (insT (1024, 1024, 1024) a) b) c = (a, b, c) := by
  obtain ⟨h1, h2, h3, h4, h5⟩ := h
  by_cases ea : a = 1024
  · have eb : b = 1024 := by omega
    have ec : c = 1024 := by omega
    subst ea
    rw [eb, ec]
    rfl
  · have e1 : insT (1024, 1024, 1024) a = (a, 1024, 1024) := by
      show ins 1024 1024 1024 a = _
      unfold ins
      rw [if_neg ea, if_neg ea, if_pos (by omega), if_neg (by omega)]
    rw [e1]
    by_cases eb : b = 1024
    · have ec : c = 1024 := by omega
      have e2 : insT (a, 1024, 1024) 1024 = (a, 1024, 1024) := by
        show ins a 1024 1024 1024 = _
        unfold ins
        rw [if_neg (by omega), if_pos rfl]
      rw [eb, ec, e2, e2]
    · have e2 : insT (a, 1024, 1024) b = (a, b, 1024) := by
        show ins a 1024 1024 b = _
        unfold ins
        rw [if_neg (by omega), if_neg eb, if_pos (by omega), if_pos (by omega), if_neg (by omega)]
      rw [e2]
      show ins a b 1024 c = _
      unfold ins
      rw [if_neg (by omega), if_neg (by omega)]
      by_cases ec : c = 1024
      · rw [if_neg (by omega), ec]
      · rw [if_pos (by omega), if_pos (by omega), if_pos (by omega)]
def e6 (a b c d e f : Nat) : Nat → Nat
  | 0 => a
  | 1 => b
  | 2 => c
  | 3 => d
  | 4 => e
  | _ => f
theorem e6_3 {a b c : Nat} (h : cn a b c) (d e f : Nat) : la3 (e6 a b c d e f) 3 = (a, b, c) := by
  rw [la3_s, la3_s, la3_s]
  exact in3 h
theorem e6_6 {a b c : Nat} (h : cn a b c) (d e f : Nat) : la3 (e6 a b c d e f) 6 = insT (insT (insT (a, b, c) d) e) f := by
  rw [la3_s, la3_s, la3_s, e6_3 h]
  rfl
theorem ins_cn {p : Nat × Nat × Nat} (h : cnT p) (x : Nat) : cnT (insT p x) := by
  obtain ⟨a, b, c⟩ := p
  have h1 := la3_cn (e6 a b c x x x) 4
  rw [la3_s, e6_3 h] at h1
  exact h1
theorem ins_1024 {p : Nat × Nat × Nat} (h : cnT p) : insT p 1024 = p := by
  obtain ⟨a, b, c⟩ := p
  obtain ⟨h1, h2, h3, h4, h5⟩ := h
  have h3' : c ≤ 1024 := h3
  show ins a b c 1024 = (a, b, c)
  unfold ins
  by_cases e1 : 1024 = a
  · rw [if_pos e1]
  · rw [if_neg e1]
    by_cases e2 : 1024 = b
    · rw [if_pos e2]
    · rw [if_neg e2, if_neg (by omega)]
theorem unpack_n {p : Nat × Nat × Nat} (h : cnT p) (sx : Nat → Int32) {i : Nat} (hi : i + 2 < 6) : ∃ sx', fX8_unpack sx (lN (p3T p)) (nI i) = some sx' ∧ sx' i = nI p.1 ∧ sx' (i + 1) = nI p.2.1 ∧ sx' (i + 2) = nI p.2.2 ∧ ∀ j, j < i ∨ i + 2 < j → sx' j = sx j := by
  obtain ⟨a, b, c⟩ := p
  obtain ⟨h1, h2, h3, _, _⟩ := h
  have h1' : a ≤ 1024 := h1
  have h2' : b ≤ 1024 := h2
  have h3' : c ≤ 1024 := h3
  have e1 : p3 a b c % 2000 = a := by unfold p3; omega
  have e2 : p3 a b c / 2000 % 2000 = b := by unfold p3; omega
  have e3 : p3 a b c / 4000000 = c := by unfold p3; omega
  have hb : p3 a b c < 2 ^ 63 := by unfold p3; omega
  have hb2 : p3 a b c / 2000 < 2 ^ 63 := by omega
  refine ⟨upd (upd (upd sx i (nI a)) (i + 1) (nI b)) (i + 2) (nI c), ?_, ?_, ?_, ?_, fun j hj => ?_⟩
  · show fX8_unpack sx (lN (p3 a b c)) (nI i) = _
    rw [fX8_unpack, show (2000 : Int64) = lN 2000 from rfl, show (4000000 : Int64) = lN 4000000 from rfl, pk_lRem hb (by omega) (by omega), pk_lDiv hb (by omega) (by omega), pk_lRem hb2 (by omega) (by omega), pk_lDiv hb (by omega) (by omega), e1, e2, e3, lN_i, lN_i, lN_i, wrI_n (by omega) (by omega), Option.bind_some, zl1, nI_add, wrI_n (by omega) (by omega), Option.bind_some, zl2, nI_add, wrI_n (by omega) (by omega), Option.bind_some]
  · rw [pk_un (by omega), pk_un (by omega), pk_us]
  · rw [pk_un (by omega), pk_us]
  · rw [pk_us]
  · rw [pk_un (by omega), pk_un (by omega), pk_un (by omega)]
theorem le_rI {x t : Nat} (hx : x < 2 ^ 31) (ht : t < 2 ^ 31) : nI x ≤ rI t ↔ x < t := by
  unfold rI
  by_cases e : t = 0
  · rw [if_pos e, fa_le, nI_toInt hx]
    have : (-1 : Int32).toInt = -1 := by decide
    omega
  · rw [if_neg e, nI_leI hx (by omega)]; omega
theorem leastL {sx : Nat → Int32} {e : Nat → Nat} (h : ∀ i, i < 6 → sx i = nI (e i)) (he : ∀ i, i < 6 → e i ≤ 1024) {t : Nat} (ht : t ≤ 1025) : ∀ (m k n : Nat), k + m = 6 → m < n → fX8_leastAbove_L6 sx (rI t) n (nI (laK t e k)) (nI k) = some (nI (laK t e 6)) := by
  intro m
  induction m with
  | zero =>
    intro k n hk hn
    obtain ⟨n, rfl⟩ : ∃ z, n = z + 1 := ⟨n - 1, by omega⟩
    have ek : k = 6 := by omega
    rw [fX8_leastAbove_L6, if_pos (show (6 : Int32) ≤ nI k from nI_le (a := 6) (b := k) (by omega) (by omega)), ek]
  | succ m ih =>
    intro k n hk hn
    obtain ⟨n, rfl⟩ : ∃ z, n = z + 1 := ⟨n - 1, by omega⟩
    have g := ih (k + 1) n (by omega) (by omega)
    rw [laK] at g
    have hek := he k (by omega)
    have hlk := la_le t e k
    rw [fX8_leastAbove_L6, if_neg (show ¬ (6 : Int32) ≤ nI k from nI_ge (a := k) (b := 6) (by omega) (by omega)), rdI_n (by omega) (by omega), Option.bind_some, jn1, jn0, h k (by omega), nI_1]
    unfold la1 at g
    by_cases g1 : e k < t
    · rw [if_pos g1] at g
      rw [if_pos ((le_rI (by omega) (by omega)).mpr g1)]
      exact g
    · rw [if_neg g1] at g
      rw [if_neg (fun c => g1 ((le_rI (by omega) (by omega)).mp c)), Option.bind_some]
      by_cases g2 : laK t e k ≤ e k
      · rw [if_pos g2] at g
        rw [if_pos (nI_le g2 (by omega))]
        exact g
      · rw [if_neg g2] at g
        rw [if_neg (nI_ge (by omega) (by omega)), Option.bind_some]
        exact g
theorem least_n {sx : Nat → Int32} {e : Nat → Nat} (h : ∀ i, i < 6 → sx i = nI (e i)) (he : ∀ i, i < 6 → e i ≤ 1024) {t : Nat} (ht : t ≤ 1025) : fX8_leastAbove sx (rI t) = some (nI (laK t e 6)) := by
  have g := leastL h he ht 6 0 300 (by omega) (by omega)
  have g' : fX8_leastAbove_L6 sx (rI t) 300 1024 0 = some (nI (laK t e 6)) := g
  rw [fX8_leastAbove, g', Option.bind_some]
theorem three_n {p q : Nat × Nat × Nat} (hp : cnT p) (hq : cnT q) (sx : Nat → Int32) : ∃ sx', fX8_threeOf sx (lN (p3T p)) (lN (p3T q)) = some (lN (p3T (insT (insT (insT p q.1) q.2.1) q.2.2)), sx') := by
  obtain ⟨s1, u1, u2, u3, u4, u5⟩ := unpack_n hp sx (i := 0) (by omega)
  obtain ⟨s2, v1, v2, v3, v4, v5⟩ := unpack_n hq s1 (i := 3) (by omega)
  obtain ⟨a, b, c⟩ := p
  obtain ⟨d, e, f⟩ := q
  have h6 : ∀ i, i < 6 → s2 i = nI (e6 a b c d e f i) := by
    intro i hi
    match i, hi with
    | 0, _ => rw [v5 0 (by omega)]; exact u2
    | 1, _ => rw [v5 1 (by omega)]; exact u3
    | 2, _ => rw [v5 2 (by omega)]; exact u4
    | 3, _ => exact v2
    | 4, _ => exact v3
    | 5, _ => exact v4
  have hb : ∀ i, i < 6 → e6 a b c d e f i ≤ 1024 := by
    intro i hi
    match i, hi with
    | 0, _ => exact hp.1
    | 1, _ => exact hp.2.1
    | 2, _ => exact hp.2.2.1
    | 3, _ => exact hq.1
    | 4, _ => exact hq.2.1
    | 5, _ => exact hq.2.2.1
  have hl := e6_6 (show cn a b c from hp) d e f
  have k1 := la_le 0 (e6 a b c d e f) 6
  have k2 := la_le (laK 0 (e6 a b c d e f) 6 + 1) (e6 a b c d e f) 6
  have k3 := la_le (laK (laK 0 (e6 a b c d e f) 6 + 1) (e6 a b c d e f) 6 + 1) (e6 a b c d e f) 6
  have l1 := least_n h6 hb (t := 0) (by omega)
  have l2 := least_n h6 hb (t := laK 0 (e6 a b c d e f) 6 + 1) (by omega)
  have l3 := least_n h6 hb (t := laK (laK 0 (e6 a b c d e f) 6 + 1) (e6 a b c d e f) 6 + 1) (by omega)
  rw [rI_s] at l2 l3
  have l1' : fX8_leastAbove s2 (-1) = some (nI (laK 0 (e6 a b c d e f) 6)) := l1
  have v1' : fX8_unpack s1 (lN (p3T (d, e, f))) 3 = some s2 := v1
  have u1' : fX8_unpack sx (lN (p3T (a, b, c))) 0 = some s1 := u1
  refine ⟨s2, ?_⟩
  show fX8_threeOf sx (lN (p3T (a, b, c))) (lN (p3T (d, e, f))) = some (lN (p3T (insT (insT (insT (a, b, c) d) e) f)), s2)
  rw [fX8_threeOf, u1', Option.bind_some, v1', Option.bind_some, l1', Option.bind_some, l2, Option.bind_some, l3, Option.bind_some, nI_l (by omega), nI_l (by omega), nI_l (by omega), pk_3, ← hl]
  rfl
