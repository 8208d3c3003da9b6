/-! rings: fronts, what is seen, the ring of a node -/
def arK (L : Nat → Nat) (s : Nat) : Nat → Nat
  | 0 => 0
  | k + 1 => if s.testBit k then arK L s k ||| L k else arK L s k
theorem arK_bit (L : Nat → Nat) (s i : Nat) : ∀ k, (arK L s k).testBit i = true ↔ ∃ v, v < k ∧ s.testBit v = true ∧ (L v).testBit i = true := by
  intro k
  induction k with
  | zero =>
    show (0 : Nat).testBit i = true ↔ _
    rw [Nat.zero_testBit]
    constructor
    · intro h; cases h
    · intro ⟨v, hv, _⟩; omega
  | succ k ih =>
    show (if s.testBit k then arK L s k ||| L k else arK L s k).testBit i = true ↔ _
    cases hk : s.testBit k
    · rw [if_neg (by decide), ih]
      constructor
      · intro ⟨v, h1, h2⟩; exact ⟨v, by omega, h2⟩
      · intro ⟨v, h1, h2⟩
        refine ⟨v, ?_, h2⟩
        apply Nat.lt_of_le_of_ne (by omega)
        intro e
        rw [e, hk] at h2
        cases h2.1
    · rw [if_pos rfl, Nat.testBit_or, Bool.or_eq_true, ih]
      constructor
      · intro h
        rcases h with ⟨v, h1, h2⟩ | h
        · exact ⟨v, by omega, h2⟩
        · exact ⟨k, by omega, hk, h⟩
      · intro ⟨v, h1, h2⟩
        by_cases e : v = k
        · right; rw [← e]; exact h2.2
        · left; exact ⟨v, by omega, h2⟩
def frS (N : Nat) (L : Nat → Nat) : Nat → Nat × Nat
  | 0 => (1, 1)
  | r + 1 => ((frS N L r).1 ||| (arK L (frS N L r).2 N ^^^ (arK L (frS N L r).2 N &&& (frS N L r).1)), arK L (frS N L r).2 N ^^^ (arK L (frS N L r).2 N &&& (frS N L r).1))
def Fq (N : Nat) (L : Nat → Nat) (r : Nat) : Nat := (frS N L r).2
def Se (N : Nat) (L : Nat → Nat) (r : Nat) : Nat := (frS N L r).1
theorem Fq_s (N : Nat) (L : Nat → Nat) (r : Nat) : Fq N L (r + 1) = arK L (Fq N L r) N ^^^ (arK L (Fq N L r) N &&& Se N L r) := rfl
theorem Se_s (N : Nat) (L : Nat → Nat) (r : Nat) : Se N L (r + 1) = Se N L r ||| Fq N L (r + 1) := rfl
theorem Fq_b (N : Nat) (L : Nat → Nat) (r v : Nat) : (Fq N L (r + 1)).testBit v = ((arK L (Fq N L r) N).testBit v && !(Se N L r).testBit v) := by
  rw [Fq_s, not_bit]
theorem Se_b (N : Nat) (L : Nat → Nat) (v : Nat) : ∀ r, (Se N L r).testBit v = true ↔ ∃ j, j ≤ r ∧ (Fq N L j).testBit v = true := by
  intro r
  induction r with
  | zero =>
    constructor
    · intro h; exact ⟨0, by omega, h⟩
    · intro ⟨j, hj, h⟩
      have : j = 0 := by omega
      subst this
      exact h
  | succ r ih =>
    rw [Se_s, Nat.testBit_or, Bool.or_eq_true, ih]
    constructor
    · intro h
      rcases h with ⟨j, h1, h2⟩ | h
      · exact ⟨j, by omega, h2⟩
      · exact ⟨r + 1, by omega, h⟩
    · intro ⟨j, h1, h2⟩
      by_cases e : j = r + 1
      · right; rw [← e]; exact h2
      · left; exact ⟨j, by omega, h2⟩
theorem Fq_dj {N : Nat} {L : Nat → Nat} {j r v : Nat} (hj : j < r) (h : (Fq N L r).testBit v = true) : (Fq N L j).testBit v = false := by
  obtain ⟨r, rfl⟩ : ∃ z, r = z + 1 := ⟨r - 1, by omega⟩
  rw [Fq_b, Bool.and_eq_true] at h
  cases hc : (Fq N L j).testBit v
  · rfl
  · rw [(Se_b N L v r).mpr ⟨j, by omega, hc⟩] at h
    cases h.2
theorem Fq_in {N : Nat} {L O Hd : Nat → Nat} (hO : netOK N L O Hd) : ∀ {r v : Nat}, (Fq N L r).testBit v = true → v < N := by
  intro r v h
  cases r with
  | zero =>
    have h1 : (1 : Nat).testBit v = true := h
    rw [Nat.testBit_one_eq_true_iff_self_eq_zero] at h1
    have := hO.1
    omega
  | succ r =>
    rw [Fq_b, Bool.and_eq_true] at h
    obtain ⟨u, h1, h2, h3⟩ := (arK_bit L _ v N).mp h.1
    apply Nat.lt_of_not_le
    intro hc
    rw [Nat.testBit_lt_two_pow (Nat.lt_of_lt_of_le (hO.2.2.2.1 u) (Nat.pow_le_pow_right (by omega) hc))] at h3
    cases h3
theorem bits_lt {N x : Nat} (h : ∀ v, x.testBit v = true → v < N) : x < 2 ^ N := by
  apply Nat.lt_of_not_le
  intro hc
  obtain ⟨i, hi, hb⟩ := Nat.exists_ge_and_testBit_of_ge_two_pow hc
  have := h i hb
  omega
theorem Fq_lt {N : Nat} {L O Hd : Nat → Nat} (hO : netOK N L O Hd) (r : Nat) : Fq N L r < 2 ^ N := bits_lt (fun _ h => Fq_in hO h)
theorem Fq_z {N : Nat} {L O Hd : Nat → Nat} (hO : netOK N L O Hd) {r : Nat} (h : ∀ v, v < N → (Fq N L r).testBit v = false) : Fq N L r = 0 := by
  apply Nat.eq_of_testBit_eq
  intro i
  rw [Nat.zero_testBit]
  cases hb : (Fq N L r).testBit i
  · rfl
  · rw [h i (Fq_in hO hb)] at hb; cases hb
theorem Fq_zz {N : Nat} {L : Nat → Nat} {r : Nat} (h : Fq N L r = 0) : ∀ k, Fq N L (r + k) = 0 := by
  intro k
  induction k with
  | zero => exact h
  | succ k ih =>
    have e : arK L 0 N = 0 := by
      apply Nat.eq_of_testBit_eq
      intro i
      rw [Nat.zero_testBit]
      cases hb : (arK L 0 N).testBit i
      · rfl
      · obtain ⟨u, _, h2, _⟩ := (arK_bit L 0 i N).mp hb
        rw [Nat.zero_testBit] at h2
        cases h2
    rw [← Nat.add_assoc, Fq_s, ih, e, Nat.zero_and, Nat.xor_self]
theorem Se_ct {N : Nat} {L O Hd : Nat → Nat} (hO : netOK N L O Hd) : ∀ r, Fq N L r ≠ 0 → r + 1 ≤ fb_ct (fun v => (Se N L r).testBit v) N := by
  intro r
  induction r with
  | zero =>
    intro _
    have : 0 < fb_ct (fun v => (Se N L 0).testBit v) N := fb_ct_pos.mpr ⟨0, hO.1, (by decide : (1 : Nat).testBit 0 = true)⟩
    omega
  | succ r ih =>
    intro h
    have h0 : Fq N L r ≠ 0 := fun e => h (Fq_zz e 1)
    have h1 := ih h0
    have h2 : fb_ct (fun v => (Se N L (r + 1)).testBit v) N = fb_ct (fun v => (Se N L r).testBit v) N + fb_ct (fun v => (Fq N L (r + 1)).testBit v) N := by
      rw [← fb_ct_or (p := fun v => (Se N L r).testBit v) (q := fun v => (Fq N L (r + 1)).testBit v)]
      · apply fb_ct_cong
        intro k hk
        show (Se N L (r + 1)).testBit k = _
        rw [Se_s, Nat.testBit_or]
      · intro k hk hc
        have h3 := hc.2
        have h4 : (Se N L r).testBit k = true := hc.1
        have h3' : (Fq N L (r + 1)).testBit k = true := h3
        rw [Fq_b, h4, Bool.and_eq_true] at h3'
        cases h3'.2
    have h3 : 0 < fb_ct (fun v => (Fq N L (r + 1)).testBit v) N := by
      apply fb_ct_pos.mpr
      have hx : ∃ v, v < N ∧ (Fq N L (r + 1)).testBit v = true := Classical.byContradiction fun hc => h (Fq_z hO fun v hv => by
        cases hb : (Fq N L (r + 1)).testBit v
        · rfl
        · exact absurd ⟨v, hv, hb⟩ hc)
      exact hx
    omega
theorem Fq9 {N : Nat} {L O Hd : Nat → Nat} (hO : netOK N L O Hd) : Fq N L 9 = 0 := by
  apply Classical.byContradiction
  intro h
  have h1 := Se_ct hO 9 h
  have h2 := fb_ct_le (fun v => (Se N L 9).testBit v) N
  have := hO.2.1
  omega
def rvK (N : Nat) (L : Nat → Nat) : Nat → Nat → Nat
  | 0, _ => 0
  | r + 1, v => if (Fq N L r).testBit v then r + 1 else rvK N L r v
theorem rv_le (N : Nat) (L : Nat → Nat) (v : Nat) : ∀ r, rvK N L r v ≤ r := by
  intro r
  induction r with
  | zero => exact Nat.le_refl 0
  | succ r ih =>
    rw [rvK]
    cases (Fq N L r).testBit v
    · rw [if_neg (by decide)]; omega
    · rw [if_pos rfl]; omega
theorem rv_eq {N : Nat} {L : Nat → Nat} {v j : Nat} : ∀ {r : Nat}, j < r → (rvK N L r v = j + 1 ↔ (Fq N L j).testBit v = true) := by
  intro r
  induction r with
  | zero => intro h; omega
  | succ r ih =>
    intro h
    rw [rvK]
    cases hb : (Fq N L r).testBit v
    · rw [if_neg (by decide)]
      by_cases e : j = r
      · rw [e, hb]
        have := rv_le N L v r
        constructor
        · intro; omega
        · intro h; cases h
      · exact ih (by omega)
    · rw [if_pos rfl]
      by_cases e : j = r
      · rw [e, hb]; exact ⟨fun _ => rfl, fun _ => rfl⟩
      · rw [Fq_dj (by omega : j < r) hb]
        constructor
        · intro; omega
        · intro h; cases h
theorem rv_z {N : Nat} {L : Nat → Nat} {v r : Nat} (h : rvK N L (r + 1) v = 0) : (Se N L r).testBit v = false := by
  cases hs : (Se N L r).testBit v
  · rfl
  · obtain ⟨j, h1, h2⟩ := (Se_b N L v r).mp hs
    have := (rv_eq (r := r + 1) (by omega : j < r + 1)).mpr h2
    omega
theorem rv_nz {N : Nat} {L : Nat → Nat} {v r : Nat} (h : rvK N L (r + 1) v ≠ 0) : (Se N L r).testBit v = true := by
  have h1 := rv_le N L v (r + 1)
  apply (Se_b N L v r).mpr
  refine ⟨rvK N L (r + 1) v - 1, by omega, ?_⟩
  apply (rv_eq (r := r + 1) (by omega)).mp
  omega
theorem rv_st {N : Nat} {L : Nat → Nat} {v a : Nat} (h : ∀ k, Fq N L (a + k) = 0) : ∀ k, rvK N L (a + k) v = rvK N L a v := by
  intro k
  induction k with
  | zero => rfl
  | succ k ih =>
    rw [← Nat.add_assoc, rvK, h, Nat.zero_testBit, if_neg (by decide), ih]
theorem rv_10 {N : Nat} {L O Hd : Nat → Nat} (hO : netOK N L O Hd) (v : Nat) : rvK N L 10 v = rvK N L 9 v := by
  rw [rvK, Fq9 hO, Nat.zero_testBit, if_neg (by decide)]
theorem rv_in {N : Nat} {L O Hd : Nat → Nat} (hO : netOK N L O Hd) {v : Nat} (hv : N ≤ v) : ∀ r, rvK N L r v = 0 := by
  intro r
  induction r with
  | zero => rfl
  | succ r ih =>
    rw [rvK]
    cases hb : (Fq N L r).testBit v
    · rw [if_neg (by decide)]; exact ih
    · have := Fq_in hO hb; omega
def rI (q : Nat) : Int32 := if q = 0 then -1 else nI (q - 1)
theorem rI_s (q : Nat) : rI (q + 1) = nI q := if_neg (by omega)
theorem nI_m1 {q : Nat} (h : q < 2 ^ 31) : ¬ nI q = -1 := by
  intro e
  have h1 := nI_toInt h
  rw [e] at h1
  have : (-1 : Int32).toInt = -1 := by decide
  omega
theorem rI_z {q : Nat} (h : q < 2 ^ 31) : rI q = -1 ↔ q = 0 := by
  unfold rI
  by_cases e : q = 0
  · rw [if_pos e]; exact ⟨fun _ => e, fun _ => rfl⟩
  · rw [if_neg e]; exact ⟨fun h1 => absurd h1 (nI_m1 (by omega)), fun h1 => absurd h1 e⟩
theorem rI_e {q j : Nat} (h : q < 2 ^ 31) (hj : j < 2 ^ 31) : rI q = nI j ↔ q = j + 1 := by
  unfold rI
  by_cases e : q = 0
  · rw [if_pos e]; exact ⟨fun h1 => absurd h1.symm (nI_m1 hj), fun h1 => by omega⟩
  · rw [if_neg e, nI_eq (by omega) hj]; omega
def grK (N : Nat) (L : Nat → Nat) : Nat → Nat
  | 0 => 0
  | r + 1 => if Fq N L r = 0 then grK N L r else r
/-- the class's settling of a front -/
theorem settleL {N s r : Nat} {L : Nat → Nat} {li : Nat → Int32} (hN : N ≤ 9) (hs : s < 2 ^ N) (hl : ∀ v, v < 9 → li v = nI (L v)) : ∀ (t k n : Nat) (ri : Nat → Int32), k + t = N → t < n → ∃ ri', fX6_settle_L6 (nI N) li (nI s) (nI r) n (nI (arK L s k)) (nI k) ri = some (nI (arK L s N), ri') ∧ ∀ j, ri' j = if k ≤ j ∧ s.testBit j = true then nI r else ri j := by
  have hz : ∀ j, N ≤ j → s.testBit j = false := fun j hj => Nat.testBit_lt_two_pow (Nat.lt_of_lt_of_le hs (Nat.pow_le_pow_right (by omega) hj))
  intro t
  induction t with
  | zero =>
    intro k n ri hk hn
    obtain ⟨n, rfl⟩ : ∃ z, n = z + 1 := ⟨n - 1, by omega⟩
    have e : k = N := by omega
    subst e
    refine ⟨ri, ?_, fun j => ?_⟩
    · rw [fX6_settle_L6, if_pos (nI_le (by omega) (by omega))]
    · rw [if_neg]
      intro ⟨h1, h2⟩
      rw [hz j h1] at h2
      cases h2
  | succ t ih =>
    intro k n ri hk hn
    obtain ⟨n, rfl⟩ : ∃ z, n = z + 1 := ⟨n - 1, by omega⟩
    rw [fX6_settle_L6, if_neg (nI_ge (by omega) (by omega)), isIn_n (lt31 hN hs) (by omega), Option.bind_some, jn2]
    cases hb : s.testBit k
    · have e : arK L s (k + 1) = arK L s k := by
        rw [arK, hb, if_neg (by decide)]
      rw [bI_f, if_pos (by decide), nI_1]
      obtain ⟨ri', f1, f2⟩ := ih (k + 1) n ri (by omega) (by omega)
      rw [e] at f1
      refine ⟨ri', f1, fun j => ?_⟩
      rw [f2]
      by_cases h1 : j = k
      · subst h1
        rw [if_neg (by omega), if_neg (fun c => by rw [hb] at c; cases c.2)]
      · by_cases h2 : k + 1 ≤ j ∧ s.testBit j = true
        · rw [if_pos h2, if_pos ⟨by omega, h2.2⟩]
        · rw [if_neg h2, if_neg (fun c => h2 ⟨by omega, c.2⟩)]
    · have e : arK L s (k + 1) = arK L s k ||| L k := by
        rw [arK, hb, if_pos rfl]
      rw [bI_t, if_neg (by decide), wrI_n (by omega) (by omega), Option.bind_some, rdI_n (by omega) (by omega), Option.bind_some, hl k (by omega), fa_or, nI_1, ← e]
      obtain ⟨ri', f1, f2⟩ := ih (k + 1) n (upd ri k (nI r)) (by omega) (by omega)
      refine ⟨ri', f1, fun j => ?_⟩
      rw [f2]
      by_cases h1 : j = k
      · subst h1
        rw [if_neg (by omega), pk_us, if_pos ⟨by omega, hb⟩]
      · rw [pk_un h1]
        by_cases h2 : k + 1 ≤ j ∧ s.testBit j = true
        · rw [if_pos h2, if_pos ⟨by omega, h2.2⟩]
        · rw [if_neg h2, if_neg (fun c => h2 ⟨by omega, c.2⟩)]
theorem rI_step {N : Nat} {L O Hd : Nat → Nat} (hO : netOK N L O Hd) (r j : Nat) : rI (rvK N L (r + 1) j) = if 0 ≤ j ∧ (Fq N L r).testBit j = true then nI r else rI (rvK N L r j) := by
  rw [rvK]
  cases hb : (Fq N L r).testBit j
  · rw [if_neg (by decide), if_neg (fun c => by cases c.2)]
  · rw [if_pos rfl, if_pos ⟨by omega, rfl⟩, rI_s]
theorem laysL {N : Nat} {L O Hd : Nat → Nat} {li : Nat → Int32} (hO : netOK N L O Hd) (hl : ∀ v, v < 9 → li v = nI (L v)) : ∀ (t r n : Nat) (ri rs : Nat → Int32), r + t = 9 → t < n → (∀ j, j < 9 → ri j = rI (rvK N L r j)) → (∀ j, j < r → rs j = nI (Fq N L j)) → ∃ ri' rs', fX6_layRings_L20 (nI N) li n (nI (Se N L r)) (nI (Fq N L r)) (nI r) ri rs (nI (grK N L r)) = some (ri', rs', nI (grK N L 9)) ∧ (∀ j, j < 9 → ri' j = rI (rvK N L 9 j)) ∧ (∀ j, j < 9 → rs' j = nI (Fq N L j)) := by
  have hN := hO.2.1
  intro t
  induction t with
  | zero =>
    intro r n ri rs hk hn h1 h2
    obtain ⟨n, rfl⟩ : ∃ z, n = z + 1 := ⟨n - 1, by omega⟩
    have e : r = 9 := by omega
    subst e
    refine ⟨ri, rs, ?_, h1, h2⟩
    rw [fX6_layRings_L20, if_pos (by decide)]
  | succ t ih =>
    intro r n ri rs hk hn h1 h2
    obtain ⟨n, rfl⟩ : ∃ z, n = z + 1 := ⟨n - 1, by omega⟩
    have h31 := lt31 hN (Fq_lt hO r)
    rw [fX6_layRings_L20, if_neg (show ¬ (9 : Int32) ≤ nI r from nI_ge (a := r) (b := 9) (by omega) (by omega)), wrI_n (by omega) (by omega), Option.bind_some, jn1]
    obtain ⟨ri', f1, f2⟩ := settleL (s := Fq N L r) (r := r) hN (Fq_lt hO r) hl N 0 300 ri (by omega) (by omega)
    have f1' : fX6_settle ri (nI N) li (nI (Fq N L r)) (nI r) = some (nI (arK L (Fq N L r) N), ri') := by
      rw [fX6_settle, zl0]
      show bd2 (fX6_settle_L6 (nI N) li (nI (Fq N L r)) (nI r) 300 (nI (arK L (Fq N L r) 0)) (nI 0) ri) _ = _
      rw [f1]
      rfl
    have hg : (if nI (Fq N L r) = 0 then nI (grK N L r) else nI r) = nI (grK N L (r + 1)) := by
      rw [grK]
      by_cases hz : Fq N L r = 0
      · rw [zl0, hz, if_pos rfl, if_pos rfl]
      · rw [zl0, if_neg hz, if_neg (fun c => hz ((nI_eq (a := Fq N L r) (b := 0) h31 (by omega)).mp c))]
    obtain ⟨ri2, rs2, g1, g2, g3⟩ := ih (r + 1) n ri' (upd rs r (nI (Fq N L r))) (by omega) (by omega) (fun j hj => by rw [f2, rI_step hO, h1 j hj]) (fun j hj => by
      by_cases e : j = r
      · subst e; exact pk_us
      · rw [pk_un e]; exact h2 j (by omega))
    refine ⟨ri2, rs2, ?_, g2, g3⟩
    rw [f1']
    simp only [bd2, Option.bind_some]
    rw [not_n, ← Fq_s, fa_or, ← Se_s, nI_1]
    rw [← hg] at g1
    by_cases hz : nI (Fq N L r) = 0
    · rw [if_pos hz] at g1 ⊢
      exact g1
    · rw [if_neg hz] at g1 ⊢
      exact g1
theorem fillL {x : Int32} : ∀ (t k n : Nat) (f : Nat → Int32), k + t = 9 → t < n → ∃ f', fJ7_fill_53178_L5 x (nI 9) n (nI k) f = some f' ∧ (∀ j, j < k → f' j = f j) ∧ ∀ j, k ≤ j → j < 9 → f' j = x := by
  intro t
  induction t with
  | zero =>
    intro k n f hk hn
    obtain ⟨n, rfl⟩ : ∃ z, n = z + 1 := ⟨n - 1, by omega⟩
    refine ⟨f, ?_, fun _ _ => rfl, fun j h1 h2 => absurd h2 (by omega)⟩
    rw [fJ7_fill_53178_L5, if_pos (nI_le (by omega) (by omega))]
  | succ t ih =>
    intro k n f hk hn
    obtain ⟨n, rfl⟩ : ∃ z, n = z + 1 := ⟨n - 1, by omega⟩
    rw [fJ7_fill_53178_L5, if_neg (nI_ge (by omega) (by omega)), wrI_n (by omega) (by omega), Option.bind_some, nI_1]
    obtain ⟨f', e1, e2, e3⟩ := ih (k + 1) n (upd f k x) (by omega) (by omega)
    refine ⟨f', e1, fun j hj => ?_, fun j h1 h2 => ?_⟩
    · rw [e2 j (by omega), pk_un (by omega)]
    · by_cases e : j = k
      · subst e; rw [e2 j (by omega), pk_us]
      · exact e3 j (by omega) h2
theorem fill_n (f : Nat → Int32) (x : Int32) : ∃ f', fJ7_fill_53178 f x = some f' ∧ ∀ j, j < 9 → f' j = x := by
  obtain ⟨f', e1, _, e3⟩ := fillL (x := x) 9 0 300 f (by omega) (by omega)
  refine ⟨f', ?_, fun j hj => e3 j (by omega) hj⟩
  rw [fJ7_fill_53178, zl9, zl0, e1, Option.bind_some]
theorem layX {N : Nat} {L O Hd : Nat → Nat} {li : Nat → Int32} (hO : netOK N L O Hd) (hl : ∀ v, v < 9 → li v = nI (L v)) (ri rs : Nat → Int32) (gr : Int32) : ∃ ri' rs', fX6_layRings ri rs gr (nI N) li = some (ri', rs', nI (grK N L 9)) ∧ (∀ j, j < 9 → ri' j = rI (rvK N L 9 j)) ∧ (∀ j, j < 9 → rs' j = nI (Fq N L j)) := by
  obtain ⟨f', e1, e2⟩ := fill_n ri (-1)
  obtain ⟨ri', rs', g1, g2, g3⟩ := laysL hO hl 9 0 300 f' rs (by omega) (by omega) (fun j hj => e2 j hj) (fun j hj => absurd hj (by omega))
  refine ⟨ri', rs', ?_, g2, g3⟩
  rw [fX6_layRings, e1, Option.bind_some]
  have g1' : fX6_layRings_L20 (nI N) li 300 1 1 0 f' rs 0 = some (ri', rs', nI (grK N L 9)) := g1
  rw [g1']
  rfl
