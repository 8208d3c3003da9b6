/-! ones counted -/
def bc1 (n : Nat) : Nat := n - (n / 2 &&& 1431655765)
def bc2 (m : Nat) : Nat := (m &&& 858993459) + (m / 4 &&& 858993459)
def bc3 (m : Nat) : Nat := (m + m / 16) &&& 252645135
def bc4 (m : Nat) : Nat := m + m / 256
def bc5 (m : Nat) : Nat := m + m / 65536
def bcN (n : Nat) : Nat := bc5 (bc4 (bc3 (bc2 (bc1 n)))) &&& 63
def pc : Nat → Nat → Nat
  | 0, _ => 0
  | k + 1, n => n % 2 + pc k (n / 2)
theorem pc_ct : ∀ (k n : Nat), pc k n = fb_ct (fun i => n.testBit i) k := by
  intro k
  induction k with
  | zero => intro n; rfl
  | succ k ih =>
    intro n
    have h := fb_ct_split (fun i => n.testBit i) 1 k
    rw [Nat.add_comm 1 k] at h
    have e : fb_ct (fun j => n.testBit (1 + j)) k = fb_ct (fun i => (n / 2).testBit i) k := by
      apply fb_ct_cong
      intro j _
      show n.testBit (1 + j) = (n / 2).testBit j
      rw [Nat.add_comm, Nat.testBit_add_one]
    rw [h, e, ← ih, pc]
    congr 1
    show n % 2 = 0 + (if n.testBit 0 then 1 else 0)
    rw [Nat.testBit_zero]
    rcases Nat.mod_two_eq_zero_or_one n with h0 | h0
    · rw [h0]; rfl
    · rw [h0]; rfl
theorem and_sp {a m b c : Nat} (ha : a < 256) (hm : m < 256) : (a + 256 * b) &&& (m + 256 * c) = (a &&& m) + 256 * (b &&& c) := by
  have h1 := Nat.and_mod_two_pow (a := a + 256 * b) (b := m + 256 * c) (n := 8)
  have h2 := Nat.and_div_two_pow (a := a + 256 * b) (b := m + 256 * c) (n := 8)
  rw [show (a + 256 * b) % 2 ^ 8 = a by omega, show (m + 256 * c) % 2 ^ 8 = m by omega] at h1
  rw [show (a + 256 * b) / 2 ^ 8 = b by omega, show (m + 256 * c) / 2 ^ 8 = c by omega] at h2
  omega
def bd1 (a : Nat) : Nat := a - (a / 2 &&& 85)
def bd2' (p : Nat) : Nat := (p &&& 51) + (p / 4 &&& 51)
def bd3' (q : Nat) : Nat := (q + q / 16) % 16
theorem bt1 : ∀ a, a < 256 → ∀ c, c < 2 → (a / 2 + 128 * c) &&& 85 = a / 2 &&& 85 := by decide +kernel
theorem bt2 : ∀ a, a < 256 → ∀ c, c < 4 → (a / 4 + 64 * c) &&& 51 = a / 4 &&& 51 := by decide +kernel
theorem bt3 : ∀ a, a < 256 → a &&& 5592405 = a &&& 85 ∧ a &&& 3355443 = a &&& 51 ∧ a &&& 986895 = a % 16 := by decide +kernel
theorem bt4 : ∀ a, a < 256 → bd2' (bd1 a) % 16 ≤ 4 ∧ bd2' (bd1 a) ≤ 68 ∧ bd3' (bd2' (bd1 a)) = pc 8 a := by decide +kernel
theorem pc8 : ∀ a, a < 256 → pc 8 a ≤ 8 := by decide +kernel
theorem bc1_sp {a b : Nat} (ha : a < 256) (hb : b < 256) : bc1 (a + 256 * b) = bd1 a + 256 * bd1 b := by
  have e1 : (a + 256 * b) / 2 = (a / 2 + 128 * (b % 2)) + 256 * (b / 2) := by omega
  have e2 : (a + 256 * b) / 2 &&& 1431655765 = (a / 2 &&& 85) + 256 * (b / 2 &&& 85) := by
    rw [e1, show 1431655765 = 85 + 256 * 5592405 from rfl, and_sp (by omega) (by omega), bt1 a ha _ (by omega), (bt3 (b / 2) (by omega)).1]
  have h1 : a / 2 &&& 85 ≤ a / 2 := Nat.and_le_left
  have h2 : b / 2 &&& 85 ≤ b / 2 := Nat.and_le_left
  unfold bc1 bd1
  rw [e2]
  omega
theorem bc2_sp {a b : Nat} (ha : a < 256) (hb : b < 256) : bc2 (a + 256 * b) = bd2' a + 256 * bd2' b := by
  have e1 : (a + 256 * b) / 4 = (a / 4 + 64 * (b % 4)) + 256 * (b / 4) := by omega
  unfold bc2 bd2'
  rw [e1, show 858993459 = 51 + 256 * 3355443 from rfl, and_sp (by omega) (by omega), and_sp (by omega) (by omega), bt2 a ha _ (by omega), (bt3 b hb).2.1, (bt3 (b / 4) (by omega)).2.1]
  omega
theorem bc3_sp {a b : Nat} (ha : a ≤ 68) (hb : b ≤ 68) (hb2 : b % 16 ≤ 4) : bc3 (a + 256 * b) = bd3' a + 256 * bd3' b := by
  have e1 : (a + 256 * b) + (a + 256 * b) / 16 = (a + a / 16 + 16 * (b % 16)) + 256 * (b + b / 16) := by omega
  unfold bc3 bd3'
  rw [e1, show 252645135 = 15 + 256 * 986895 from rfl, and_sp (by omega) (by omega), (bt3 (b + b / 16) (by omega)).2.2]
  have e2 : (a + a / 16 + 16 * (b % 16)) &&& 15 = (a + a / 16 + 16 * (b % 16)) % 16 := Nat.and_two_pow_sub_one_eq_mod _ 4
  rw [e2]
  omega
theorem pc_sp {a b : Nat} (ha : a < 256) : pc 16 (a + 256 * b) = pc 8 a + pc 8 b := by
  rw [pc_ct, pc_ct, pc_ct, show (16 : Nat) = 8 + 8 from rfl, fb_ct_split]
  have e : a + 256 * b = 2 ^ 8 * b + a := by omega
  congr 1
  · apply fb_ct_cong
    intro j hj
    show (a + 256 * b).testBit j = a.testBit j
    rw [e, Nat.testBit_two_pow_mul_add b ha, if_pos hj]
  · apply fb_ct_cong
    intro j hj
    show (a + 256 * b).testBit (8 + j) = b.testBit j
    rw [e, Nat.testBit_two_pow_mul_add b ha, if_neg (by omega), Nat.add_sub_cancel_left]
theorem bc_pc {n : Nat} (h : n < 65536) : bcN n = pc 16 n := by
  have ha : n % 256 < 256 := by omega
  have hb : n / 256 < 256 := by omega
  have en : n = n % 256 + 256 * (n / 256) := by omega
  obtain ⟨a1, a2, a3⟩ := bt4 _ ha
  obtain ⟨b1, b2, b3⟩ := bt4 _ hb
  have d1 : bd1 (n % 256) < 256 := Nat.lt_of_le_of_lt (Nat.sub_le _ _) ha
  have d2 : bd1 (n / 256) < 256 := Nat.lt_of_le_of_lt (Nat.sub_le _ _) hb
  have k1 := pc8 _ ha
  have k2 := pc8 _ hb
  rw [en, pc_sp ha]
  unfold bcN
  rw [bc1_sp ha hb, bc2_sp d1 d2, bc3_sp a2 b2 b1, a3, b3]
  unfold bc4 bc5
  have e2 : ∀ x, x &&& 63 = x % 64 := fun x => Nat.and_two_pow_sub_one_eq_mod x 6
  have e3 : (pc 8 (n % 256) + 256 * pc 8 (n / 256)) / 256 = pc 8 (n / 256) := by omega
  rw [e2, e3]
  have e4 : (pc 8 (n % 256) + 256 * pc 8 (n / 256) + pc 8 (n / 256)) / 65536 = 0 := by omega
  rw [e4]
  omega
theorem us1 {a : Nat} (h : a < 2 ^ 32) : ((nI a).toUInt32 >>> ((1 : Int32).toUInt32 &&& Int32.toUInt32 31)).toInt32 = nI (a / 2) := pk_ushrN h 1 1 (by decide)
theorem us2 {a : Nat} (h : a < 2 ^ 32) : ((nI a).toUInt32 >>> ((2 : Int32).toUInt32 &&& Int32.toUInt32 31)).toInt32 = nI (a / 4) := pk_ushrN h 2 2 (by decide)
theorem us4 {a : Nat} (h : a < 2 ^ 32) : ((nI a).toUInt32 >>> ((4 : Int32).toUInt32 &&& Int32.toUInt32 31)).toInt32 = nI (a / 16) := pk_ushrN h 4 4 (by decide)
theorem us8 {a : Nat} (h : a < 2 ^ 32) : ((nI a).toUInt32 >>> ((8 : Int32).toUInt32 &&& Int32.toUInt32 31)).toInt32 = nI (a / 256) := pk_ushrN h 8 8 (by decide)
theorem us16 {a : Nat} (h : a < 2 ^ 32) : ((nI a).toUInt32 >>> ((16 : Int32).toUInt32 &&& Int32.toUInt32 31)).toInt32 = nI (a / 65536) := pk_ushrN h 16 16 (by decide)
theorem bitCount_n {n : Nat} (h : n < 65536) : fJ6_bitCount_0f7a4 (nI n) = some (nI (pc 16 n)) := by
  have e1 : nI n - (((nI n).toUInt32 >>> ((1 : Int32).toUInt32 &&& Int32.toUInt32 31)).toInt32 &&& (1431655765 : Int32)) = nI (bc1 n) := by
    rw [us1 (by omega), show (1431655765 : Int32) = nI 1431655765 from rfl, fa_and, pk_sub (Nat.le_trans Nat.and_le_left (Nat.div_le_self n 2))]
    rfl
  have b1 : bc1 n < 65536 := Nat.lt_of_le_of_lt (Nat.sub_le _ _) h
  have e2 : (nI (bc1 n) &&& (858993459 : Int32)) + (((nI (bc1 n)).toUInt32 >>> ((2 : Int32).toUInt32 &&& Int32.toUInt32 31)).toInt32 &&& (858993459 : Int32)) = nI (bc2 (bc1 n)) := by
    rw [us2 (by omega), show (858993459 : Int32) = nI 858993459 from rfl, fa_and, fa_and, nI_add]
    rfl
  have b2 : bc2 (bc1 n) < 2 ^ 17 := by
    have h1 : bc1 n &&& 858993459 ≤ bc1 n := Nat.and_le_left
    have h2 : bc1 n / 4 &&& 858993459 ≤ bc1 n / 4 := Nat.and_le_left
    unfold bc2
    omega
  have e3 : (nI (bc2 (bc1 n)) + ((nI (bc2 (bc1 n))).toUInt32 >>> ((4 : Int32).toUInt32 &&& Int32.toUInt32 31)).toInt32) &&& (252645135 : Int32) = nI (bc3 (bc2 (bc1 n))) := by
    rw [us4 (by omega), show (252645135 : Int32) = nI 252645135 from rfl, nI_add, fa_and]
    rfl
  have b3 : bc3 (bc2 (bc1 n)) < 2 ^ 18 := by
    have h1 : bc2 (bc1 n) + bc2 (bc1 n) / 16 &&& 252645135 ≤ bc2 (bc1 n) + bc2 (bc1 n) / 16 := Nat.and_le_left
    unfold bc3
    omega
  have e4 : nI (bc3 (bc2 (bc1 n))) + ((nI (bc3 (bc2 (bc1 n)))).toUInt32 >>> ((8 : Int32).toUInt32 &&& Int32.toUInt32 31)).toInt32 = nI (bc4 (bc3 (bc2 (bc1 n)))) := by
    rw [us8 (by omega), nI_add]
    rfl
  have b4 : bc4 (bc3 (bc2 (bc1 n))) < 2 ^ 19 := by
    unfold bc4
    omega
  have e5 : nI (bc4 (bc3 (bc2 (bc1 n)))) + ((nI (bc4 (bc3 (bc2 (bc1 n))))).toUInt32 >>> ((16 : Int32).toUInt32 &&& Int32.toUInt32 31)).toInt32 = nI (bc5 (bc4 (bc3 (bc2 (bc1 n))))) := by
    rw [us16 (by omega), nI_add]
    rfl
  rw [fJ6_bitCount_0f7a4, e1, e2, e3, e4, e5, show (63 : Int32) = nI 63 from rfl, fa_and, ← bc_pc h]
  rfl
theorem onesL {x : Nat} (hx : x < 2 ^ 31) : ∀ (t k n : Nat), k + t = 16 → t < n → fX8_ones_L4 (nI x) n (nI (fb_ct (fun i => x.testBit i) k)) (nI k) = some (nI (fb_ct (fun i => x.testBit i) 16)) := by
  intro t
  induction t with
  | zero =>
    intro k n hk hn
    obtain ⟨n, rfl⟩ : ∃ z, n = z + 1 := ⟨n - 1, by omega⟩
    have e : k = 16 := by omega
    rw [fX8_ones_L4, if_pos (show (16 : Int32) ≤ nI k from nI_le (a := 16) (b := k) (by omega) (by omega)), e]
  | succ t ih =>
    intro k n hk hn
    obtain ⟨n, rfl⟩ : ∃ z, n = z + 1 := ⟨n - 1, by omega⟩
    have g := ih (k + 1) n (by omega) (by omega)
    rw [fb_ct_succ] at g
    rw [fX8_ones_L4, if_neg (show ¬ (16 : Int32) ≤ nI k from nI_ge (a := k) (b := 16) (by omega) (by omega)), has_n hx (by omega), Option.bind_some, jn1, nI_1, zl1, zl0]
    cases hb : x.testBit k
    · rw [hb, if_neg (by decide), Nat.add_zero] at g
      rw [bI_f, if_pos rfl]
      dsimp only
      rw [nI_add, Nat.add_zero]
      exact g
    · rw [hb, if_pos rfl] at g
      rw [bI_t, if_neg (by decide)]
      dsimp only
      rw [nI_add]
      exact g
theorem ones_n {x : Nat} (hx : x < 2 ^ 31) : fX8_ones (nI x) = some (nI (pc 16 x)) := by
  have g := onesL hx 16 0 300 (by omega) (by omega)
  have g' : fX8_ones_L4 (nI x) 300 0 0 = some (nI (fb_ct (fun i => x.testBit i) 16)) := g
  rw [← pc_ct] at g'
  rw [fX8_ones, g', Option.bind_some]
/-- what is truly heard -/
def thK (N : Nat) (L Hd : Nat → Nat) : Nat → Nat
  | 0 => 0
  | k + 1 => if rvK N L 9 k = 0 then thK N L Hd k else thK N L Hd k ||| Hd k
theorem th_lt {N : Nat} {L Hd : Nat → Nat} (h : ∀ v, Hd v < 65536) : ∀ k, thK N L Hd k < 65536 := by
  intro k
  induction k with
  | zero => exact (by decide : 0 < 65536)
  | succ k ih =>
    rw [thK]
    by_cases e : rvK N L 9 k = 0
    · rw [if_pos e]; exact ih
    · rw [if_neg e]; exact Nat.or_lt_two_pow (n := 16) ih (h k)
theorem trueL {N : Nat} {L Hd : Nat → Nat} {ri he : Nat → Int32} (hN : N ≤ 9) (h1 : ∀ j, j < 9 → ri j = rI (rvK N L 9 j)) (hh : ∀ v, v < 9 → he v = nI (Hd v)) : ∀ (t k n : Nat), k + t = N → t < n → fX6_trueCount_L4 ri (nI N) he n (nI (thK N L Hd k)) (nI k) = some (nI (thK N L Hd N)) := by
  intro t
  induction t with
  | zero =>
    intro k n hk hn
    obtain ⟨n, rfl⟩ : ∃ z, n = z + 1 := ⟨n - 1, by omega⟩
    have e : k = N := by omega
    rw [fX6_trueCount_L4, if_pos (nI_le (by omega) (by omega)), e]
  | succ t ih =>
    intro k n hk hn
    obtain ⟨n, rfl⟩ : ∃ z, n = z + 1 := ⟨n - 1, by omega⟩
    have g := ih (k + 1) n (by omega) (by omega)
    have h9 := rv_le N L k 9
    rw [thK] at g
    rw [fX6_trueCount_L4, if_neg (nI_ge (by omega) (by omega)), rdI_n (by omega) (by omega), Option.bind_some, jn1, nI_1, h1 k (by omega)]
    by_cases e : rvK N L 9 k = 0
    · rw [if_pos e] at g
      rw [if_pos ((rI_z (by omega)).mpr e)]
      exact g
    · rw [if_neg e] at g
      rw [if_neg (fun c => e ((rI_z (by omega)).mp c)), rdI_n (by omega) (by omega), Option.bind_some, hh k (by omega), fa_or]
      exact g
theorem true_n {N : Nat} {L O Hd : Nat → Nat} {ri he : Nat → Int32} (hO : netOK N L O Hd) (h1 : ∀ j, j < 9 → ri j = rI (rvK N L 9 j)) (hh : ∀ v, v < 9 → he v = nI (Hd v)) : fX6_trueCount ri (nI N) he = some (nI (pc 16 (thK N L Hd N))) := by
  have hN := hO.2.1
  have g := trueL hN h1 hh N 0 300 (by omega) (by omega)
  have g' : fX6_trueCount_L4 ri (nI N) he 300 0 0 = some (nI (thK N L Hd N)) := g
  rw [fX6_trueCount, g', Option.bind_some, bitCount_n (th_lt hO.2.2.2.2.1 N), Option.bind_some]
theorem truthL {N sal md : Nat} {L O Hd : Nat → Nat} {w ri : Nat → Int32} (hO : netOK N L O Hd) (rw_ : rowM N sal md L O Hd w 0) (h1 : ∀ j, j < 9 → ri j = rI (rvK N L 9 j)) : ∀ (t k n : Nat), k + t = N → t < n → fX8_truth_L8 w ri n (nI (thK N L Hd k)) (nI k) = some (nI (thK N L Hd N)) := by
  have hN := hO.2.1
  have hw : w 0 = nI N := rw_.1
  intro t
  induction t with
  | zero =>
    intro k n hk hn
    obtain ⟨n, rfl⟩ : ∃ z, n = z + 1 := ⟨n - 1, by omega⟩
    have e : k = N := by omega
    rw [fX8_truth_L8, hw, if_pos (nI_le (by omega) (by omega)), e]
  | succ t ih =>
    intro k n hk hn
    obtain ⟨n, rfl⟩ : ∃ z, n = z + 1 := ⟨n - 1, by omega⟩
    have g := ih (k + 1) n (by omega) (by omega)
    have h9 := rv_le N L k 9
    have hh : w (21 + k) = nI (Hd k) := by
      have := (rw_.2.2.2 k (by omega)).2.2
      rw [Nat.zero_add] at this
      exact this
    rw [thK] at g
    rw [fX8_truth_L8, hw, if_neg (nI_ge (by omega) (by omega)), rdI_n (by omega) (by omega), Option.bind_some, jn1, nI_1, h1 k (by omega)]
    by_cases e : rvK N L 9 k = 0
    · rw [if_pos e] at g
      rw [if_pos ((rI_z (by omega)).mpr e)]
      dsimp only
      rw [Int32.or_zero]
      exact g
    · rw [if_neg e] at g
      rw [if_neg (fun c => e ((rI_z (by omega)).mp c)), zl21, nI_add, rdI_n (by omega) (by omega), Option.bind_some, hh]
      dsimp only
      rw [fa_or]
      exact g
theorem truth_n {N sal md : Nat} {L O Hd : Nat → Nat} {w : Nat → Int32} (hO : netOK N L O Hd) (rw_ : rowM N sal md L O Hd w 0) (ri : Nat → Int32) : ∃ ri', fX8_truth w ri = some (nI (pc 16 (thK N L Hd N)), ri') := by
  have hN := hO.2.1
  obtain ⟨ri1, e1, e2⟩ := layM hO rw_ ri
  have g := truthL hO rw_ e2 N 0 300 (by omega) (by omega)
  have g' : fX8_truth_L8 w ri1 300 0 0 = some (nI (thK N L Hd N)) := g
  refine ⟨ri1, ?_⟩
  rw [fX8_truth, e1, Option.bind_some, g', Option.bind_some, ones_n (by have := th_lt (N := N) (L := L) hO.2.2.2.2.1 N; omega), Option.bind_some]
theorem pairsL {g : Nat → Nat} {f : Nat → Int32} (hg : ∀ v, g v < 65536) (h : ∀ v, v < 9 → f v = nI (g v)) : ∀ (t k n : Nat), k + t = 9 → t < n → fX7_pairsIn_L10 f (nI 9) n (nI (fb_sm (fun v => pc 16 (g v)) k)) (nI k) = some (nI (fb_sm (fun v => pc 16 (g v)) 9)) := by
  intro t
  induction t with
  | zero =>
    intro k n hk hn
    obtain ⟨n, rfl⟩ : ∃ z, n = z + 1 := ⟨n - 1, by omega⟩
    have e : k = 9 := by omega
    rw [fX7_pairsIn_L10, if_pos (nI_le (by omega) (by omega)), e]
  | succ t ih =>
    intro k n hk hn
    obtain ⟨n, rfl⟩ : ∃ z, n = z + 1 := ⟨n - 1, by omega⟩
    rw [fX7_pairsIn_L10, if_neg (nI_ge (by omega) (by omega)), rdI_n (by omega) (by omega), Option.bind_some, h k (by omega), bitCount_n (hg k), Option.bind_some, nI_add, nI_1]
    exact ih (k + 1) n (by omega) (by omega)
theorem linksL {N : Nat} {g : Nat → Nat} {w : Nat → Int32} (hN : N ≤ 9) (hw : w 0 = nI N) (hg : ∀ v, g v < 65536) (h : ∀ v, v < N → w (3 + v) = nI (g v)) : ∀ (t k n : Nat), k + t = N → t < n → fX8_links_L4 w n (nI (fb_sm (fun v => pc 16 (g v)) k)) (nI k) = some (nI (fb_sm (fun v => pc 16 (g v)) N)) := by
  intro t
  induction t with
  | zero =>
    intro k n hk hn
    obtain ⟨n, rfl⟩ : ∃ z, n = z + 1 := ⟨n - 1, by omega⟩
    have e : k = N := by omega
    rw [fX8_links_L4, hw, if_pos (nI_le (by omega) (by omega)), e]
  | succ t ih =>
    intro k n hk hn
    obtain ⟨n, rfl⟩ : ∃ z, n = z + 1 := ⟨n - 1, by omega⟩
    rw [fX8_links_L4, hw, if_neg (nI_ge (by omega) (by omega)), zl3, nI_add, rdI_n (by omega) (by omega), Option.bind_some, h k (by omega), ones_n (by have := hg k; omega), Option.bind_some, nI_add, nI_1]
    exact ih (k + 1) n (by omega) (by omega)
theorem lostLinksL {N : Nat} {g : Nat → Nat} {w : Nat → Int32} (hN : N ≤ 9) (hw : w 0 = nI N) (hg : ∀ v, g v < 65536) (h : ∀ v, v < N → w (12 + v) = nI (g v)) : ∀ (t k n : Nat), k + t = N → t < n → fX8_lostLinks_L4 w n (nI (fb_sm (fun v => pc 16 (g v)) k)) (nI k) = some (nI (fb_sm (fun v => pc 16 (g v)) N)) := by
  intro t
  induction t with
  | zero =>
    intro k n hk hn
    obtain ⟨n, rfl⟩ : ∃ z, n = z + 1 := ⟨n - 1, by omega⟩
    have e : k = N := by omega
    rw [fX8_lostLinks_L4, hw, if_pos (nI_le (by omega) (by omega)), e]
  | succ t ih =>
    intro k n hk hn
    obtain ⟨n, rfl⟩ : ∃ z, n = z + 1 := ⟨n - 1, by omega⟩
    rw [fX8_lostLinks_L4, hw, if_neg (nI_ge (by omega) (by omega)), zl12, nI_add, rdI_n (by omega) (by omega), Option.bind_some, h k (by omega), ones_n (by have := hg k; omega), Option.bind_some, nI_add, nI_1]
    exact ih (k + 1) n (by omega) (by omega)
theorem sm_st {f : Nat → Nat} {N : Nat} (h : ∀ j, N ≤ j → f j = 0) : ∀ k, fb_sm f (N + k) = fb_sm f N := by
  intro k
  induction k with
  | zero => rfl
  | succ k ih => rw [← Nat.add_assoc, fb_sm_succ, ih, h _ (by omega), Nat.add_zero]
theorem pairs_n {g : Nat → Nat} {f : Nat → Int32} (hg : ∀ v, g v < 65536) (h : ∀ v, v < 9 → f v = nI (g v)) : fX7_pairsIn f = some (nI (fb_sm (fun v => pc 16 (g v)) 9) / 2) := by
  have e := pairsL hg h 9 0 300 (by omega) (by omega)
  have e' : fX7_pairsIn_L10 f 9 300 0 0 = some (nI (fb_sm (fun v => pc 16 (g v)) 9)) := e
  rw [fX7_pairsIn, e', Option.bind_some]
theorem links_n {N : Nat} {g : Nat → Nat} {w : Nat → Int32} (hN : N ≤ 9) (hw : w 0 = nI N) (hg : ∀ v, g v < 65536) (hz : ∀ v, N ≤ v → g v = 0) (h : ∀ v, v < N → w (3 + v) = nI (g v)) : fX8_links w = some (nI (fb_sm (fun v => pc 16 (g v)) 9) / 2) := by
  have e := linksL hN hw hg h N 0 300 (by omega) (by omega)
  have s := sm_st (f := fun v => pc 16 (g v)) (N := N) (fun j hj => by show pc 16 (g j) = 0; rw [hz j hj]; rfl) (9 - N)
  rw [show N + (9 - N) = 9 by omega] at s
  rw [← s] at e
  have e' : fX8_links_L4 w 300 0 0 = some (nI (fb_sm (fun v => pc 16 (g v)) 9)) := e
  rw [fX8_links, e', Option.bind_some]
theorem lostLinks_n {N : Nat} {g : Nat → Nat} {w : Nat → Int32} (hN : N ≤ 9) (hw : w 0 = nI N) (hg : ∀ v, g v < 65536) (hz : ∀ v, N ≤ v → g v = 0) (h : ∀ v, v < N → w (12 + v) = nI (g v)) : fX8_lostLinks w = some (nI (fb_sm (fun v => pc 16 (g v)) 9) / 2) := by
  have e := lostLinksL hN hw hg h N 0 300 (by omega) (by omega)
  have s := sm_st (f := fun v => pc 16 (g v)) (N := N) (fun j hj => by show pc 16 (g j) = 0; rw [hz j hj]; rfl) (9 - N)
  rw [show N + (9 - N) = 9 by omega] at s
  rw [← s] at e
  have e' : fX8_lostLinks_L4 w 300 0 0 = some (nI (fb_sm (fun v => pc 16 (g v)) 9)) := e
  rw [fX8_lostLinks, e', Option.bind_some]
