/-! the guess on the whole: the reference's tables -/
def wj (j : Nat) : Nat := if j = 7 then 1 else 2 ^ (6 - j)
def B0 (s : Nat) : Nat := if s = 0 then 1 else 0
def nx (B : Nat → Nat) (t : Nat) : Nat := fb_sm (fun j => if t.testBit j then wj j * (B t + B (t ^^^ 2 ^ j)) else 0) 8
def BB : Nat → Nat → Nat
  | 0 => B0
  | n + 1 => nx (BB n)
def ce (X t : Nat) : Nat := (X >>> (64 * t)) % 18446744073709551616
theorem or256 {s j : Nat} (hs : s < 256) (hj : j < 8) : s ||| 2 ^ j < 256 := Nat.or_lt_two_pow (n := 8) hs (pw_lt hj)
theorem xor256 {s j : Nat} (hs : s < 256) (hj : j < 8) : s ^^^ 2 ^ j < 256 := Nat.xor_lt_two_pow (n := 8) hs (pw_lt hj)
theorem or_is {s t j : Nat} (hb : t.testBit j = true) : s ||| 2 ^ j = t ↔ s = t ∨ s = t ^^^ 2 ^ j := by
  constructor
  · intro h
    cases hs : s.testBit j
    · right
      apply Nat.eq_of_testBit_eq
      intro i
      rw [fb_bit_flip, ← h, fb_bit_set]
      by_cases e : i = j
      · subst e; rw [hs, decide_eq_true rfl]; rfl
      · rw [decide_eq_false e, Bool.or_false, Bool.xor_false]
    · left
      apply Nat.eq_of_testBit_eq
      intro i
      rw [← h, fb_bit_set]
      by_cases e : i = j
      · subst e; rw [hs]; rfl
      · rw [decide_eq_false e, Bool.or_false]
  · intro h
    apply Nat.eq_of_testBit_eq
    intro i
    rw [fb_bit_set]
    rcases h with h | h
    · rw [h]
      by_cases e : i = j
      · subst e; rw [hb]; rfl
      · rw [decide_eq_false e, Bool.or_false]
    · rw [h, fb_bit_flip]
      by_cases e : i = j
      · subst e; rw [hb, decide_eq_true rfl]; rfl
      · rw [decide_eq_false e, Bool.or_false, Bool.xor_false]
theorem two_pt {a b n x y : Nat} (hab : a ≠ b) (ha : a < n) (hb : b < n) : fb_sm (fun s => if s = a then x else if s = b then y else 0) n = x + y := by
  have h1 : fb_sm (fun s => if s = a then x else if s = b then y else 0) n + (if a = b then y else 0) = fb_sm (fun s => if s = b then y else 0) n + x := fb_sm_upd (fun s => if s = b then y else 0) x ha
  have h2 : fb_sm (fun s => if s = b then y else 0) n + 0 = fb_sm (fun _ => 0) n + y := fb_sm_upd (fun _ => 0) y hb
  have h3 := fb_sm_const 0 n
  rw [if_neg hab] at h1
  rw [Nat.mul_zero] at h3
  omega
def Fw (B : Nat → Nat) (s t j : Nat) : Nat := if s ||| 2 ^ j = t then wj j * B s else 0
theorem Fw_nx (B : Nat → Nat) {t : Nat} (ht : t < 256) : fb_sm (fun s => fb_sm (Fw B s t) 8) 256 = nx B t := by
  have e1 : fb_sm (fun s => fb_sm (fun j => Fw B s t j) 8) 256 = fb_sm (fun j => fb_sm (fun s => Fw B s t j) 256) 8 := fb_sw (fun s j => Fw B s t j) 8 256
  refine e1.trans ?_
  apply fb_sm_cong
  intro j hj
  show fb_sm (fun s => Fw B s t j) 256 = if t.testBit j then wj j * (B t + B (t ^^^ 2 ^ j)) else 0
  cases hb : t.testBit j
  · rw [if_neg (by decide)]
    have : fb_sm (fun s => Fw B s t j) 256 = fb_sm (fun _ => 0) 256 := by
      apply fb_sm_cong
      intro s _
      show (if s ||| 2 ^ j = t then wj j * B s else 0) = 0
      rw [if_neg]
      intro h
      rw [← h, fb_bit_set, decide_eq_true rfl, Bool.or_true] at hb
      cases hb
    rw [this, fb_sm_const, Nat.mul_zero]
  · rw [if_pos rfl]
    have hne : t ≠ t ^^^ 2 ^ j := fun h => by
      have h2 : t.testBit j = (t ^^^ 2 ^ j).testBit j := congrArg (fun z => z.testBit j) h
      rw [fb_bit_flip, hb, decide_eq_true rfl] at h2
      cases h2
    have : fb_sm (fun s => Fw B s t j) 256 = fb_sm (fun s => if s = t then wj j * B t else if s = t ^^^ 2 ^ j then wj j * B (t ^^^ 2 ^ j) else 0) 256 := by
      apply fb_sm_cong
      intro s _
      show (if s ||| 2 ^ j = t then wj j * B s else 0) = if s = t then wj j * B t else if s = t ^^^ 2 ^ j then wj j * B (t ^^^ 2 ^ j) else 0
      by_cases h1 : s = t
      · rw [if_pos ((or_is hb).mpr (Or.inl h1)), if_pos h1, h1]
      · rw [if_neg h1]
        by_cases h2 : s = t ^^^ 2 ^ j
        · rw [if_pos ((or_is hb).mpr (Or.inr h2)), if_pos h2, h2]
        · rw [if_neg h2, if_neg (fun c => ((or_is hb).mp c).elim h1 h2)]
    rw [this, two_pt hne ht (xor256 ht hj), Nat.mul_add]
theorem nx_cong {B C : Nat → Nat} (h : ∀ s, s < 256 → B s = C s) {t : Nat} (ht : t < 256) : nx B t = nx C t := by
  unfold nx
  apply fb_sm_cong
  intro j hj
  show (if t.testBit j then wj j * (B t + B (t ^^^ 2 ^ j)) else 0) = if t.testBit j then wj j * (C t + C (t ^^^ 2 ^ j)) else 0
  rw [h t ht, h _ (xor256 ht hj)]
theorem tab0 : ∀ t, t < 256 → B0 t = ce PT0 t := by decide +kernel
theorem tab1 : ∀ t, t < 256 → nx (ce PT0) t = ce PT1 t := by decide +kernel
theorem tab2 : ∀ t, t < 256 → nx (ce PT1) t = ce PT2 t := by decide +kernel
theorem tab3 : ∀ t, t < 256 → nx (ce PT2) t = ce PT3 t := by decide +kernel
theorem tab4 : ∀ t, t < 256 → nx (ce PT3) t = ce PT4 t := by decide +kernel
theorem tab5 : ∀ t, t < 256 → nx (ce PT4) t = ce PT5 t := by decide +kernel
theorem tab6 : ∀ t, t < 256 → nx (ce PT5) t = ce PT6 t := by decide +kernel
theorem tab7 : ∀ t, t < 256 → nx (ce PT6) t = ce PT7 t := by decide +kernel
theorem tab8 : ∀ t, t < 256 → nx (ce PT7) t = ce PT8 t := by decide +kernel
theorem BB0 {t : Nat} (ht : t < 256) : BB 0 t = ce PT0 t := tab0 t ht
theorem BB1 {t : Nat} (ht : t < 256) : BB 1 t = ce PT1 t := (nx_cong (fun _ h => BB0 h) ht).trans (tab1 t ht)
theorem BB2 {t : Nat} (ht : t < 256) : BB 2 t = ce PT2 t := (nx_cong (fun _ h => BB1 h) ht).trans (tab2 t ht)
theorem BB3 {t : Nat} (ht : t < 256) : BB 3 t = ce PT3 t := (nx_cong (fun _ h => BB2 h) ht).trans (tab3 t ht)
theorem BB4 {t : Nat} (ht : t < 256) : BB 4 t = ce PT4 t := (nx_cong (fun _ h => BB3 h) ht).trans (tab4 t ht)
theorem BB5 {t : Nat} (ht : t < 256) : BB 5 t = ce PT5 t := (nx_cong (fun _ h => BB4 h) ht).trans (tab5 t ht)
theorem BB6 {t : Nat} (ht : t < 256) : BB 6 t = ce PT6 t := (nx_cong (fun _ h => BB5 h) ht).trans (tab6 t ht)
theorem BB7 {t : Nat} (ht : t < 256) : BB 7 t = ce PT7 t := (nx_cong (fun _ h => BB6 h) ht).trans (tab7 t ht)
theorem BB8 {t : Nat} (ht : t < 256) : BB 8 t = ce PT8 t := (nx_cong (fun _ h => BB7 h) ht).trans (tab8 t ht)
def rB (b : Nat → Int64) (B : Nat → Nat) : Prop := ∀ s, s < 256 → b s = lN (B s)
theorem rows0L : ∀ (t k n : Nat) (b : Nat → Int64), k + t = 256 → t < n → ∃ b', fX8_rows_L26 n (nI k) b = some b' ∧ (∀ j, j < k → b' j = b j) ∧ ∀ j, k ≤ j → j < 256 → b' j = lN (B0 j) := by
  intro t
  induction t with
  | zero =>
    intro k n b hk hn
    obtain ⟨n, rfl⟩ : ∃ z, n = z + 1 := ⟨n - 1, by omega⟩
    refine ⟨b, ?_, fun _ _ => rfl, fun j h1 h2 => absurd h2 (by omega)⟩
    rw [fX8_rows_L26, if_pos (show (256 : Int32) ≤ nI k from nI_le (a := 256) (b := k) (by omega) (by omega))]
  | succ t ih =>
    intro k n b hk hn
    obtain ⟨n, rfl⟩ : ∃ z, n = z + 1 := ⟨n - 1, by omega⟩
    obtain ⟨b', e1, e2, e3⟩ := ih (k + 1) n (vp_updL b k (lN (B0 k))) (by omega) (by omega)
    refine ⟨b', ?_, fun j hj => ?_, fun j h1 h2 => ?_⟩
    · rw [fX8_rows_L26, if_neg (show ¬ (256 : Int32) ≤ nI k from nI_ge (a := k) (b := 256) (by omega) (by omega)), jn1, nI_1]
      by_cases e : k = 0
      · subst e
        rw [if_pos (by decide)]
        dsimp only
        rw [wrL_n (by omega) (by omega), Option.bind_some]
        exact e1
      · have hb : B0 k = 0 := if_neg e
        rw [hb] at e1
        rw [if_neg (nI_ne0 (by omega) (by omega))]
        dsimp only
        rw [wrL_n (by omega) (by omega), Option.bind_some]
        exact e1
    · rw [e2 j (by omega), pk_uLn (by omega)]
    · by_cases e : j = k
      · subst e; rw [e2 j (by omega), pk_uLs]
      · exact e3 j (by omega) h2
theorem more0L : ∀ (t k n : Nat) (b : Nat → Int64), k + t = 256 → t < n → ∃ b', fX8_oneMore_L2 n (nI k) b = some b' ∧ (∀ j, j < k → b' j = b j) ∧ ∀ j, k ≤ j → j < 256 → b' j = 0 := by
  intro t
  induction t with
  | zero =>
    intro k n b hk hn
    obtain ⟨n, rfl⟩ : ∃ z, n = z + 1 := ⟨n - 1, by omega⟩
    refine ⟨b, ?_, fun _ _ => rfl, fun j h1 h2 => absurd h2 (by omega)⟩
    rw [fX8_oneMore_L2, if_pos (show (256 : Int32) ≤ nI k from nI_le (a := 256) (b := k) (by omega) (by omega))]
  | succ t ih =>
    intro k n b hk hn
    obtain ⟨n, rfl⟩ : ∃ z, n = z + 1 := ⟨n - 1, by omega⟩
    obtain ⟨b', e1, e2, e3⟩ := ih (k + 1) n (vp_updL b k 0) (by omega) (by omega)
    refine ⟨b', ?_, fun j hj => ?_, fun j h1 h2 => ?_⟩
    · rw [fX8_oneMore_L2, if_neg (show ¬ (256 : Int32) ≤ nI k from nI_ge (a := k) (b := 256) (by omega) (by omega)), wrL_n (by omega) (by omega), Option.bind_some, nI_1]
      exact e1
    · rw [e2 j (by omega), pk_uLn (by omega)]
    · by_cases e : j = k
      · subst e; rw [e2 j (by omega), pk_uLs]
      · exact e3 j (by omega) h2
theorem more2L {b2 : Nat → Int64} : ∀ (t k n : Nat) (b : Nat → Int64), k + t = 256 → t < n → ∃ b', fX8_oneMore_L91 b2 n (nI k) b = some b' ∧ (∀ j, j < k → b' j = b j) ∧ ∀ j, k ≤ j → j < 256 → b' j = b2 j := by
  intro t
  induction t with
  | zero =>
    intro k n b hk hn
    obtain ⟨n, rfl⟩ : ∃ z, n = z + 1 := ⟨n - 1, by omega⟩
    refine ⟨b, ?_, fun _ _ => rfl, fun j h1 h2 => absurd h2 (by omega)⟩
    rw [fX8_oneMore_L91, if_pos (show (256 : Int32) ≤ nI k from nI_le (a := 256) (b := k) (by omega) (by omega))]
  | succ t ih =>
    intro k n b hk hn
    obtain ⟨n, rfl⟩ : ∃ z, n = z + 1 := ⟨n - 1, by omega⟩
    obtain ⟨b', e1, e2, e3⟩ := ih (k + 1) n (vp_updL b k (b2 k)) (by omega) (by omega)
    refine ⟨b', ?_, fun j hj => ?_, fun j h1 h2 => ?_⟩
    · rw [fX8_oneMore_L91, if_neg (show ¬ (256 : Int32) ≤ nI k from nI_ge (a := k) (b := 256) (by omega) (by omega)), rdL_n (by omega) (by omega), Option.bind_some, wrL_n (by omega) (by omega), Option.bind_some, nI_1]
      exact e1
    · rw [e2 j (by omega), pk_uLn (by omega)]
    · by_cases e : j = k
      · subst e; rw [e2 j (by omega), pk_uLs]
      · exact e3 j (by omega) h2
theorem wj_n : ∀ j, j < 8 → (if nI j = (7 : Int32) then (1 : Int64) else (1 : Int64) <<< (((6 : Int32) - nI j).toInt64 &&& 63)) = lN (wj j) := by decide +kernel
theorem more33 {b1 : Nat → Int64} {B A : Nat → Nat} (h1 : rB b1 B) {s : Nat} (hs : s < 256) : ∀ (m j n : Nat) (b2 : Nat → Int64), j + m = 8 → m < n → (∀ t, t < 256 → b2 t = lN (A t + fb_sm (Fw B s t) j)) → ∃ b', fX8_oneMore_L33 b1 (nI s) n (nI j) b2 = some b' ∧ ∀ t, t < 256 → b' t = lN (A t + fb_sm (Fw B s t) 8) := by
  intro m
  induction m with
  | zero =>
    intro j n b2 hj hn h2
    obtain ⟨n, rfl⟩ : ∃ z, n = z + 1 := ⟨n - 1, by omega⟩
    have ej : j = 8 := by omega
    subst ej
    refine ⟨b2, ?_, h2⟩
    rw [fX8_oneMore_L33, if_pos (by decide)]
  | succ m ih =>
    intro j n b2 hj hn h2
    obtain ⟨n, rfl⟩ : ∃ z, n = z + 1 := ⟨n - 1, by omega⟩
    have hx := or256 hs (show j < 8 by omega)
    obtain ⟨b', e1, e2⟩ := ih (j + 1) n (vp_updL b2 (s ||| 2 ^ j) (lN (A (s ||| 2 ^ j) + fb_sm (Fw B s (s ||| 2 ^ j)) j + wj j * B s))) (by omega) (by omega) (fun t ht => by
      rw [fb_sm_succ]
      by_cases e : t = s ||| 2 ^ j
      · rw [e, pk_uLs]
        unfold Fw
        rw [if_pos rfl, Nat.add_assoc]
      · rw [pk_uLn e, h2 t ht]
        have : Fw B s t j = 0 := if_neg (fun c => e c.symm)
        rw [this, Nat.add_zero])
    refine ⟨b', ?_, e2⟩
    have hw := wj_n j (by omega)
    have step : fX8_oneMore_L33 b1 (nI s) (n + 1) (nI j) b2 = ((rdL 256 b2 (nI s ||| ((1 : Int32) <<< (nI j &&& 31)))).bind fun x66 => (rdL 256 b1 (nI s)).bind fun x73 => (wrL 256 b2 (nI s ||| ((1 : Int32) <<< (nI j &&& 31))) (x66 + (lN (wj j) * x73))).bind fun b2_76 => fX8_oneMore_L33 b1 (nI s) n (nI j + 1) b2_76) := by
      rw [fX8_oneMore_L33, if_neg (show ¬ (8 : Int32) ≤ nI j from nI_ge (a := j) (b := 8) (by omega) (by omega)), jn1, ← hw]
      by_cases e : nI j = (7 : Int32)
      · rw [if_pos e, if_pos e]
      · rw [if_neg e, if_neg e]
    rw [step, shl_1 (by omega), fa_or, rdL_n hx (by omega), Option.bind_some, rdL_n hs (by omega), Option.bind_some, h1 s hs, h2 _ hx, lN_mul, lN_add, wrL_n hx (by omega), Option.bind_some, nI_1]
    exact e1
theorem more24 {b1 : Nat → Int64} {B : Nat → Nat} (h1 : rB b1 B) : ∀ (m s n : Nat) (b2 : Nat → Int64), s + m = 256 → m < n → (∀ t, t < 256 → b2 t = lN (fb_sm (fun s => fb_sm (Fw B s t) 8) s)) → ∃ b', fX8_oneMore_L24 b1 n (nI s) b2 = some b' ∧ ∀ t, t < 256 → b' t = lN (fb_sm (fun s => fb_sm (Fw B s t) 8) 256) := by
  intro m
  induction m with
  | zero =>
    intro s n b2 hs hn h2
    obtain ⟨n, rfl⟩ : ∃ z, n = z + 1 := ⟨n - 1, by omega⟩
    have es : s = 256 := by omega
    subst es
    refine ⟨b2, ?_, h2⟩
    rw [fX8_oneMore_L24, if_pos (by decide)]
  | succ m ih =>
    intro s n b2 hs hn h2
    obtain ⟨n, rfl⟩ : ∃ z, n = z + 1 := ⟨n - 1, by omega⟩
    obtain ⟨b3, g1, g2⟩ := more33 (A := fun t => fb_sm (fun s => fb_sm (Fw B s t) 8) s) h1 (show s < 256 by omega) 8 0 300 b2 (by omega) (by omega) (fun t ht => h2 t ht)
    obtain ⟨b', e1, e2⟩ := ih (s + 1) n b3 (by omega) (by omega) (fun t ht => g2 t ht)
    refine ⟨b', ?_, e2⟩
    have g1' : fX8_oneMore_L33 b1 (nI s) 300 0 b2 = some b3 := g1
    rw [fX8_oneMore_L24, if_neg (show ¬ (256 : Int32) ≤ nI s from nI_ge (a := s) (b := 256) (by omega) (by omega)), g1', Option.bind_some, nI_1]
    exact e1
theorem more_n {b1 : Nat → Int64} {B : Nat → Nat} (h1 : rB b1 B) (b2 : Nat → Int64) : ∃ b1' b2', fX8_oneMore b1 b2 = some (b1', b2') ∧ rB b1' (nx B) := by
  obtain ⟨c, e1, _, e3⟩ := more0L 256 0 300 b2 (by omega) (by omega)
  obtain ⟨d, g1, g2⟩ := more24 h1 256 0 300 c (by omega) (by omega) (fun t ht => e3 t (by omega) ht)
  obtain ⟨f, k1, _, k3⟩ := more2L (b2 := d) 256 0 300 b1 (by omega) (by omega)
  refine ⟨f, d, ?_, fun t ht => ?_⟩
  · have e1' : fX8_oneMore_L2 300 0 b2 = some c := e1
    have g1' : fX8_oneMore_L24 b1 300 0 c = some d := g1
    have k1' : fX8_oneMore_L91 d 300 0 b1 = some f := k1
    rw [fX8_oneMore, e1', Option.bind_some, g1', Option.bind_some, k1', Option.bind_some]
  · rw [k3 t (by omega) ht, g2 t ht, Fw_nx B ht]
theorem rowsML {N : Nat} (hN : N ≤ 8) : ∀ (t k n : Nat) (b1 b2 : Nat → Int64), k + t = N → t < n → rB b1 (BB k) → ∃ b1' b2', fX8_rows_L56 (nI N) n (nI k) b1 b2 = some (b1', b2') ∧ rB b1' (BB N) := by
  intro t
  induction t with
  | zero =>
    intro k n b1 b2 hk hn h
    obtain ⟨n, rfl⟩ : ∃ z, n = z + 1 := ⟨n - 1, by omega⟩
    have ek : k = N := by omega
    subst ek
    refine ⟨b1, b2, ?_, h⟩
    rw [fX8_rows_L56, if_pos (nI_le (by omega) (by omega))]
  | succ t ih =>
    intro k n b1 b2 hk hn h
    obtain ⟨n, rfl⟩ : ∃ z, n = z + 1 := ⟨n - 1, by omega⟩
    obtain ⟨c1, c2, e1, e2⟩ := more_n h b2
    rw [fX8_rows_L56, if_neg (nI_ge (by omega) (by omega)), e1]
    simp only [bd2, Option.bind_some]
    rw [nI_1]
    exact ih (k + 1) n c1 c2 (by omega) (by omega) e2
def lnK (t : Nat) : Nat → Nat → Nat
  | 0, z => z
  | k + 1, z => if t.testBit z then lnK t k (z + 1) else z
theorem lnL {x : Nat} (hx : x < 256) : ∀ (t k n : Nat), k + t = 8 → t < n → fX8_leastNot_L2 (nI x) n (nI k) = some (nI (lnK x t k)) := by
  intro t
  induction t with
  | zero =>
    intro k n hk hn
    obtain ⟨n, rfl⟩ : ∃ z, n = z + 1 := ⟨n - 1, by omega⟩
    rw [fX8_leastNot_L2, if_pos (show (8 : Int32) ≤ nI k from nI_le (a := 8) (b := k) (by omega) (by omega))]
    rfl
  | succ t ih =>
    intro k n hk hn
    obtain ⟨n, rfl⟩ : ∃ z, n = z + 1 := ⟨n - 1, by omega⟩
    rw [fX8_leastNot_L2, if_neg (show ¬ (8 : Int32) ≤ nI k from nI_ge (a := k) (b := 8) (by omega) (by omega)), has_n (by omega) (by omega), Option.bind_some, lnK, nI_1, ih (k + 1) n (by omega) (by omega)]
    cases x.testBit k
    · rfl
    · rfl
theorem ln_n {x : Nat} (hx : x < 256) : fX8_leastNot (nI x) = some (nI (lnK x 8 0)) := by
  have h := lnL hx 8 0 300 (by omega) (by omega)
  have h' : fX8_leastNot_L2 (nI x) 300 0 = some (nI (lnK x 8 0)) := h
  rw [fX8_leastNot, h', Option.bind_some]
theorem lnK_le (x : Nat) : ∀ (t k : Nat), lnK x t k ≤ k + t := by
  intro t
  induction t with
  | zero => intro k; exact Nat.le_refl k
  | succ t ih =>
    intro k
    rw [lnK]
    cases x.testBit k
    · rw [if_neg (by decide)]; omega
    · rw [if_pos rfl]; have := ih (k + 1); omega
def sumB (B : Nat → Nat) (z : Nat) : Nat → Nat := fb_sm (fun t => if lnK t 8 0 = z then B t else 0)
theorem sumL {b : Nat → Int64} {B : Nat → Nat} (h : rB b B) {z : Nat} (hz : z ≤ 8) : ∀ (t k n : Nat), k + t = 256 → t < n → fX8_rows_L76 b (nI z) n (lN (sumB B z k)) (nI k) = some (lN (sumB B z 256)) := by
  intro t
  induction t with
  | zero =>
    intro k n hk hn
    obtain ⟨n, rfl⟩ : ∃ z, n = z + 1 := ⟨n - 1, by omega⟩
    have ek : k = 256 := by omega
    rw [fX8_rows_L76, if_pos (show (256 : Int32) ≤ nI k from nI_le (a := 256) (b := k) (by omega) (by omega)), ek]
  | succ t ih =>
    intro k n hk hn
    obtain ⟨n, rfl⟩ : ∃ z, n = z + 1 := ⟨n - 1, by omega⟩
    have g := ih (k + 1) n (by omega) (by omega)
    have hl := lnK_le k 8 0
    have hs : sumB B z (k + 1) = sumB B z k + (if lnK k 8 0 = z then B k else 0) := rfl
    rw [hs] at g
    rw [fX8_rows_L76, if_neg (show ¬ (256 : Int32) ≤ nI k from nI_ge (a := k) (b := 256) (by omega) (by omega)), ln_n (by omega), Option.bind_some, jn1, nI_1]
    by_cases e : lnK k 8 0 = z
    · rw [if_pos e] at g
      rw [if_pos (by rw [e]), rdL_n (by omega) (by omega), Option.bind_some, h k (by omega)]
      dsimp only
      rw [lN_add]
      exact g
    · rw [if_neg e, Nat.add_zero] at g
      rw [if_neg (fun c => e ((nI_eq (by omega) (by omega)).mp c))]
      dsimp only
      rw [Int64.add_zero]
      exact g
theorem rowsM {N z : Nat} (h1 : 1 ≤ N) (hN : N ≤ 8) (hz : z ≤ 8) (b1 b2 : Nat → Int64) : ∃ c1 c2, fX8_rows b1 b2 (nI N) (nI z) = some (lN (sumB (BB N) z 256), c1, c2) := by
  obtain ⟨c, e1, _, e3⟩ := rows0L 256 0 300 b1 (by omega) (by omega)
  obtain ⟨d1, d2, g1, g2⟩ := rowsML hN N 0 300 c b2 (by omega) (by omega) (fun s hs => e3 s (by omega) hs)
  have k := sumL g2 hz 256 0 300 (by omega) (by omega)
  have e1' : fX8_rows_L26 300 0 b1 = some c := e1
  have g1' : fX8_rows_L56 (nI N) 300 0 c b2 = some (d1, d2) := g1
  have k' : fX8_rows_L76 d1 (nI z) 300 0 0 = some (lN (sumB (BB N) z 256)) := k
  refine ⟨d1, d2, ?_⟩
  rw [fX8_rows, in_n, Option.bind_some, jn0, zl1, zl8, ab_yes h1 hN (by omega), bI_t, if_neg (by decide), in_n, Option.bind_some, in_yes hz (by omega), bI_t, if_neg (by decide), e1', Option.bind_some, g1']
  simp only [bd2, Option.bind_some]
  rw [k', Option.bind_some]
